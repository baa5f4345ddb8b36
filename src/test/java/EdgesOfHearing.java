/** Promises 22 to 32: what was heard, and what is done by hand. */
final class EdgesOfHearing {
    private static final String OUT = Scenes.OUT;
    private static final String WRONG = Scenes.WRONG;
    private static final String STATE = Scenes.STATE;
    private static final String A = Scenes.word("a", 10);
    private static final String B = Scenes.word("b", 20);
    private static final String FULL = "word a is hold 5 for 9, rest for 9, hold 7 for 6;";

    private EdgesOfHearing() {
    }

    /** The first and the last of two words and of eight are taken; all others are refused, and change nothing. */
    private static void takesWords(String call, String behind) {
        for (int n : new int[] {2, 8}) {
            Script s = Scenes.told(Scenes.words(n)).hear(7);
            for (int word : new int[] {0, n - 1}) {
                String answer = s.answer(call + " " + word + behind);
                Script.compare(call + " " + word + " throws", String.valueOf(answer.startsWith("throws")), "false");
            }
            for (int word : new int[] {-1, n, n + 1, 99, Scenes.MIN, Scenes.MAX}) {
                s.due(call + " " + word + behind, OUT);
            }
        }
        Script.fresh().hear(7).due(call + " 0" + behind, OUT);
        Scenes.refusedAmid(call + " 3" + behind, OUT);
        Scenes.refusedAmid(call + " -1" + behind, OUT);
    }

    /** With one beat heard it answers, with none, or none any more, it throws. */
    private static void needsABeat(String call) {
        Script s = Scenes.told(A + B).refused(call + " 0", STATE).due(call + " 2", OUT).due("hear 0", 1);
        Script.compare(call + " throws", String.valueOf(s.answer(call + " 0").startsWith("throws")), "false");
        s.due("forget", 1).due(call + " 0", STATE).due(call + " 1", STATE).due(call + " -1", OUT).hear(5).teach(A).due(call + " 0", STATE);
    }

    // ---- 22

    static void promise22_returnsThePitchOfABeatThatWasHeard() {
        Scenes.told(FULL).hear(1, 40, 17).heard(1, 40, 17).due("hearWord 0 1", 24).due("heardPitch 0", 6).due("heardPitch 8", 6).due("heardPitch 23", 8);
        Scenes.onlyAsksAmid("heardPitch 0", "12");
    }

    static void promise22_returns0ForSilence() {
        Scenes.told(FULL).hear(0, 5, 0).heard(0, 5, 0).due("hearWord 0 1", 24).due("heardPitch 9", 0).due("heardPitch 17", 0);
    }

    static void promise22_throwsIfNoSuchBeatWasHeard() {
        Script s = Scenes.told(FULL).refused("heardPitch 0", OUT).hear(5).due("heardPitch 0", 5).due("heardPitch 1", OUT).due("heardPitch -1", OUT).hear(6);
        s.due("heardPitch 1", 6).due("heardPitch 2", OUT).due("heardPitch " + Scenes.MIN, OUT).due("heardPitch " + Scenes.MAX, OUT).due("hearWord 0 0", 24);
        s.due("heardPitch 23", 7).due("heardPitch 24", OUT).due("heardPitch 25", OUT).due("forget", 24).due("heardPitch 0", OUT).due("heardPitch 23", OUT);
        Scenes.refusedAmid("heardPitch 2", OUT);
        Scenes.refusedAmid("heardPitch -1", OUT);
    }

    // ---- 23

    static void promise23_returnsTheDistanceFromWhatWasHeard() {
        Script s = Scenes.told(Scenes.word("a", 10, 12) + Scenes.word("b", 0) + "shift a by 1;").hear(10).due("distanceTo 0", 2).due("distanceTo 1", 10);
        s.hear(0).due("distanceTo 0", 10).due("distanceTo 1", 10).due("passLessons 1", 1).due("distanceTo 0", 11).due("hearWord 0 0", 2).due("distanceTo 0", 0);
        s.due("hearWord 1 0", 1).due("distanceTo 0", 20).due("distanceTo 1", 0);
    }

    static void promise23_ofAPrunedWordToo() {
        Scenes.told(A + B).hear(13).due("turnPruned 0", "true").due("distanceTo 0", 3).due("turnPruned 1", "true").due("distanceTo 0", 3).due("distanceTo 1", 7);
        Scenes.onlyAsksAmid("distanceTo 2", "14");
    }

    static void promise23_throwsIfThereIsNoSuchWord() {
        takesWords("distanceTo", "");
    }

    static void promise23_throwsIfNoBeatWasHeard() {
        needsABeat("distanceTo");
    }

    // ---- 24

    static void promise24_returnsTheContourDistanceFromWhatWasHeard() {
        Script s = Scenes.told(Scenes.word("a", 10, 12, 10) + Scenes.word("b", 5) + "band 0;").hear(30).due("contourTo 0", 2).due("contourTo 1", 0);
        s.hear(40).due("contourTo 0", 1).due("contourTo 1", 1).hear(30).due("contourTo 0", 0).due("contourTo 1", 2).due("distanceTo 0", 68);
        s.due("hearWord 0 0", 3).due("contourTo 0", 0).due("turnPruned 1", "true").due("contourTo 1", 2);
        Scenes.onlyAsksAmid("contourTo 1", "3");
    }

    static void promise24_throwsIfThereIsNoSuchWord() {
        takesWords("contourTo", "");
    }

    static void promise24_throwsIfNoBeatWasHeard() {
        needsABeat("contourTo");
    }

    // ---- 25

    static void promise25_returnsTheFewestStepsOfWaysWithTheDistance() {
        // All ways cost the same: the fewest steps are as many as the longer row has beats.
        Scenes.told("word a is hold 5 for 4; word b is hold 5 for 1;").hear(5, 5, 5).due("stepsTo 0", 4).due("stepsTo 1", 3).hear(5, 5).due("stepsTo 0", 5);
        // 1 9 9 against 1 1 9: nothing in four steps, 8 in three.
        String lines = Scenes.word("a", 1, 9, 9);
        Scenes.told(lines).hear(1, 1, 9).due("distanceTo 0", 0).due("stepsTo 0", 4);
        Scenes.told(lines + "band 0;").hear(1, 1, 9).due("distanceTo 0", 8).due("stepsTo 0", 3);
        Scenes.told(lines).hear(3, 3, 7).due("distanceTo 0", 8).due("stepsTo 0", 4);
        // 1 5 against 3 3: 2 + 2 in two steps, dearer in three; so is 1 5 against 1 9.
        Scenes.told(Scenes.word("a", 1, 5)).hear(3, 3).due("distanceTo 0", 4).due("stepsTo 0", 2);
        Scenes.told(Scenes.word("a", 1, 5)).hear(1, 9).due("stepsTo 0", 2).due("turnPruned 0", "true").due("stepsTo 0", 2);
    }

    static void promise25_ofManySteps() {
        // Two rows of 24 beats that rise 23 apart: both are warped as far as can be.
        String rises = "word a is hold 1 for 1, hold 40 for 9, hold 40 for 9, hold 40 for 5; word b is hold 1 for 9, hold 1 for 9, hold 1 for 5, hold 40 for 1; band 20;";
        Script s = Scenes.told(rises).due("hearWord 1 0", 24).due("distanceTo 0", 78).due("stepsTo 0", 44);
        s.due("hearWord 0 0", 24).due("stepsTo 0", 24).due("distanceTo 0", 0).due("stepsTo 1", 44);
    }

    static void promise25_ofThePitchesAndNotOfTheContours() {
        Scenes.told(Scenes.word("a", 10, 20, 10) + "band 9;").hear(10, 10, 20, 20, 10, 10).due("distanceTo 0", 0).due("stepsTo 0", 6);
        Scenes.told(Scenes.word("a", 10, 10, 20) + "band 9;").hear(10, 20, 20).due("distanceTo 0", 0).due("stepsTo 0", 4);
        Scenes.onlyAsksAmid("stepsTo 1", "4");
    }

    static void promise25_throwsIfThereIsNoSuchWord() {
        takesWords("stepsTo", "");
    }

    static void promise25_throwsIfNoBeatWasHeard() {
        needsABeat("stepsTo");
    }

    // ---- 26

    static void promise26_returnsTheWordThatWasMeant() {
        Script s = Scenes.told(A + B + Scenes.word("c", 15)).hear(12).due("meantWord", 0).due("forget", 1).hear(13).due("meantWord", 2).due("forget", 1).hear(18);
        s.due("meantWord", 1).due("turnPruned 1", "true").due("meantWord", 2).due("turnPruned 1", "false").due("meantWord", 1);
        Scenes.told(Scenes.words(8)).hear(40).due("meantWord", 7);
        Scenes.onlyAsksAmid("meantWord", "0");
    }

    static void promise26_throwsIfThereIsNone() {
        Script.fresh().refused("meantWord", STATE).hear(5).refused("meantWord", STATE);
        Script s = Scenes.told(A + B).refused("meantWord", STATE).hear(5).due("meantWord", 0).due("turnPruned 0", "true").due("meantWord", 1);
        s.due("turnPruned 1", "true").refused("meantWord", STATE).due("turnPruned 0", "false").due("meantWord", 0).due("forget", 1).due("meantWord", STATE);
    }

    // ---- 27

    static void promise27_returnsHowMuchFartherTheNextKeptWordIs() {
        Script s = Scenes.told(A + B + Scenes.word("c", 17)).hear(11).due("surety", 5).due("turnPruned 2", "true").due("surety", 8).due("turnPruned 2", "false");
        s.due("turnPruned 0", "true").due("meantWord", 2).due("surety", 3).due("turnPruned 0", "false").due("forget", 1).hear(18).due("meantWord", 2).due("surety", 1);
        Scenes.told(Scenes.words(8)).hear(40).due("surety", 1);
        Scenes.onlyAsksAmid("surety", "16");
    }

    static void promise27_returns0IfBothAreAsFar() {
        Scenes.told(A + B).hear(15).due("meantWord", 0).due("surety", 0);
        Scenes.told(A + A.replace("word a", "word b")).hear(11).due("surety", 0);
    }

    static void promise27_returnsMinus1IfThereIsNoOtherKeptOne() {
        Scenes.told(A).hear(11).due("surety", -1);
        Script s = Scenes.told(A + B).hear(11).due("surety", 8).due("turnPruned 1", "true").due("surety", -1).due("turnPruned 0", "true");
        s.due("turnPruned 1", "false").due("surety", -1).due("turnPruned 0", "false").due("surety", 8);
    }

    static void promise27_throwsIfNoneWasMeant() {
        Script.fresh().refused("surety", STATE).hear(5).refused("surety", STATE);
        Script s = Scenes.told(A + B).refused("surety", STATE).hear(5).due("turnPruned 0", "true").due("surety", -1).due("turnPruned 1", "true");
        s.refused("surety", STATE).due("turnPruned 1", "false").due("surety", -1).due("forget", 1).due("surety", STATE);
    }

    // ---- 28

    static void promise28_hearsABeatMore() {
        Scenes.told(A).hear(5, 0, 40).heard(5, 0, 40).hear(1).heard(5, 0, 40, 1).due("distanceTo 0", 54);
        Scenes.told(FULL + B).due("hearWord 1 0", 1).hear(3).heard(20, 3).due("forget", 2).hear(4).heard(4);
    }

    static void promise28_returnsHowManyBeatsWereHeard() {
        Script s = Scenes.told(A);
        for (int k = 1; k <= 24; k++) {
            s.due("hear 5", k);
        }
        s.due("hearWord 0 0", 1).due("hear 0", 2).due("forget", 2).due("hear 0", 1);
    }

    static void promise28_throwsIfThePitchIsNot0To40() {
        Script s = Scenes.told(A).refused("hear -1", WRONG).refused("hear 41", WRONG).refused("hear " + Scenes.MIN, WRONG).refused("hear " + Scenes.MAX, WRONG);
        s.due("hear 0", 1).due("hear 40", 2).heard(0, 40).refused("hear 41", WRONG).heard(0, 40);
        Scenes.refusedAmid("hear -1", WRONG);
        Scenes.refusedAmid("hear 41", WRONG);
    }

    static void promise28_throwsIf24WereHeard() {
        Script s = Scenes.told(FULL).hear(new int[23]).due("hear 5", 24).refused("hear 6", STATE).refused("hear 0", STATE).due("heardPitch 23", 5);
        s.due("hear 41", WRONG).due("hear -1", WRONG).due("forget", 24).due("hear 6", 1).due("hearWord 0 0", 24).refused("hear 7", STATE).due("heardPitch 23", 7);
    }

    // ---- 29

    static void promise29_hearsAWordInsteadOfWhatWasHeard() {
        Script s = Scenes.told(Scenes.word("a", 5, 0, 9) + B).hear(1, 2, 3, 4, 5).due("hearWord 0 0", 3).heard(5, 0, 9).due("distanceTo 0", 0);
        s.due("hearWord 1 0", 1).heard(20).due("distanceTo 1", 0).due("turnPruned 0", "true").due("hearWord 0 0", 3).heard(5, 0, 9).pitches(0, 5, 0, 9);
    }

    static void promise29_withEachPitchSoMuchGreater() {
        Script s = Scenes.told(Scenes.word("a", 5, 7, 9) + "shift a by 10;").due("hearWord 0 1", 3).heard(6, 8, 10).due("hearWord 0 -2", 3).heard(3, 5, 7);
        s.pitches(0, 5, 7, 9).due("passLessons 1", 1).heard(3, 5, 7).due("hearWord 0 1", 3).heard(16, 18, 20).due("distanceTo 0", 3);
    }

    static void promise29_heldAt40() {
        Script s = Scenes.told(Scenes.word("a", 1, 38, 39)).due("hearWord 0 1", 3).heard(2, 39, 40).due("hearWord 0 2", 3).heard(3, 40, 40);
        s.due("hearWord 0 38", 3).heard(39, 40, 40).due("hearWord 0 39", 3).heard(40, 40, 40);
    }

    static void promise29_heldAt1() {
        Script s = Scenes.told(Scenes.word("a", 40, 3, 2)).due("hearWord 0 -1", 3).heard(39, 2, 1).due("hearWord 0 -2", 3).heard(38, 1, 1);
        s.due("hearWord 0 -38", 3).heard(2, 1, 1).due("hearWord 0 -39", 3).heard(1, 1, 1);
    }

    static void promise29_silentBeatsHaveNoPitch() {
        Script s = Scenes.told(Scenes.word("a", 0, 9, 0)).due("hearWord 0 1", 3).heard(0, 10, 0).due("hearWord 0 -1", 3).heard(0, 8, 0);
        s.due("hearWord 0 39", 3).heard(0, 40, 0).due("hearWord 0 -39", 3).heard(0, 1, 0);
    }

    static void promise29_returnsHowManyBeatsWereHeard() {
        Scenes.told(FULL + B).due("hearWord 0 5", 24).due("hearWord 1 5", 1).due("hear 3", 2).due("hearWord 1 -5", 1);
    }

    static void promise29_throwsIfThereIsNoSuchWord() {
        takesWords("hearWord", " 0");
        takesWords("hearWord", " -39");
        takesWords("hearWord", " 39");
        Scenes.refusedAmid("hearWord 3 40", OUT);
    }

    static void promise29_throwsIfByIsNotMinus39To39() {
        Script s = Scenes.told(A + B).hear(3).refused("hearWord 0 40", WRONG).refused("hearWord 0 -40", WRONG).refused("hearWord 1 " + Scenes.MIN, WRONG);
        s.refused("hearWord 1 " + Scenes.MAX, WRONG).heard(3).due("hearWord 0 39", 1).heard(40).due("hearWord 1 -39", 1).heard(1);
        Scenes.refusedAmid("hearWord 0 40", WRONG);
        Scenes.refusedAmid("hearWord 2 -40", WRONG);
    }

    // ---- 30

    static void promise30_forgetsWhatWasHeard() {
        Script s = Scenes.told(A).hear(5, 6).due("forget", 2).due("heardBeats", 0).due("heardPitch 0", OUT).due("distanceTo 0", STATE).due("meantWord", STATE);
        s.hear(7).heard(7).due("distanceTo 0", 3);
        Scenes.told(A + "shift a by distance of a - 998;").hear(10).due("forget", 1).due("passLessons 1", 1).due("pitchAt 0 0", 11);
    }

    static void promise30_returnsHowManyBeatsThatWas() {
        Scenes.told(FULL).due("forget", 0).hear(5).due("forget", 1).due("forget", 0).hear(new int[24]).due("forget", 24).due("hearWord 0 0", 24).due("forget", 24);
        Script.fresh().due("forget", 0).due("hear 0", 1).due("forget", 1);
    }

    static void promise30_forgetsNothingElse() {
        Script s = Scenes.amid().due("forget", 2).due("errorAt", 4).due("words", 3).due("lessons", 2).due("rulesCarriedOut", 2).due("isPruned 2", "true");
        s.changesNothing("forget").due("trim 8", WRONG).due("trim 7", 7).due("teach", 0);
    }

    // ---- 31

    static void promise31_prunesAWordOrKeepsIt() {
        Script s = Scenes.told(A + B).due("turnPruned 1", "true").due("isPruned 1", "true").due("isPruned 0", "false").due("keptWords", 1);
        s.due("turnPruned 1", "false").due("isPruned 1", "false").due("keptWords", 2).due("turnPruned 0", "true").due("isPruned 0", "true");
        Scenes.told(A + "prune a;").due("passLessons 1", 1).due("turnPruned 0", "false").due("passLessons 1", 1).due("isPruned 0", "true");
    }

    static void promise31_returnsWhetherItIsPrunedThen() {
        Scenes.told(A + B).due("turnPruned 0", "true").due("turnPruned 0", "false").due("turnPruned 0", "true").due("turnPruned 1", "true").due("turnPruned 0", "false");
    }

    static void promise31_throwsIfThereIsNoSuchWord() {
        takesWords("turnPruned", "");
    }

    // ---- 32

    static void promise32_prunesAllWordsThatAreNeedless() {
        Script s = Scenes.told(A + A.replace("word a", "word x") + B + B.replace("word b", "word y")).due("pruneNeedless", 2);
        s.due("isPruned 0", "false").due("isPruned 1", "true").due("isPruned 2", "false").due("isPruned 3", "true");
        Scenes.told(Scenes.words(8)).due("pruneNeedless", 0).due("keptWords", 8);
        StringBuilder same = new StringBuilder();
        for (int k = 0; k < 8; k++) {
            same.append(Scenes.word("w" + k, 7));
        }
        Scenes.told(same.toString()).due("pruneNeedless", 7).due("keptWords", 1).due("isPruned 0", "false").due("isPruned 7", "true");
    }

    static void promise32_eachAsItComesToItsTurn() {
        // b is 4 from a, c 4 from b and 8 from a: as b is pruned first, c stays.
        String lines = "word a is hold 10 for 4; word b is hold 11 for 4; word c is hold 12 for 4;";
        Script s = Scenes.told(lines).due("isNeedless 1", "true").due("isNeedless 2", "true").due("pruneNeedless", 1).due("isPruned 1", "true").due("isPruned 2", "false");
        s.due("pruneNeedless", 0);
        Scenes.told(lines).due("turnPruned 0", "true").due("pruneNeedless", 1).due("isPruned 1", "false").due("isPruned 2", "true");
    }

    static void promise32_returnsHowMany() {
        String lines = A + A.replace("word a", "word b") + A.replace("word a", "word c");
        Script s = Scenes.told(lines).due("turnPruned 1", "true").due("pruneNeedless", 1).due("pruneNeedless", 0).due("turnPruned 2", "false").due("pruneNeedless", 1);
        s.due("turnPruned 0", "true").due("pruneNeedless", 0);
        Script.fresh().due("pruneNeedless", 0).teach(A).due("pruneNeedless", 0);
    }
}
