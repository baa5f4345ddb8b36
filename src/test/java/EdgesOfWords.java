/** Promises 12 to 21: words. */
final class EdgesOfWords {
    private static final String OUT = Scenes.OUT;
    private static final String STATE = Scenes.STATE;
    private static final String THREE = "word a is hold 7 for 2, rest for 1, hold 9 for 1; word b is hold 5 for 1;"
            + "word c is hold 1 for 9, hold 2 for 9, hold 3 for 5, rest for 1;";

    private EdgesOfWords() {
    }

    /** The first and the last of n words are taken, with what stands behind the word; all others are refused. */
    private static void takesWords(String lines, int n, String call, String behind) {
        Script s = Scenes.told(lines).hear(7);
        for (int word : new int[] {0, n - 1}) {
            String answer = s.answer(call + " " + word + behind);
            Script.compare(call + " " + word + behind + " throws", String.valueOf(answer.startsWith("throws")), "false");
        }
        for (int word : new int[] {-1, n, n + 1, 99, Scenes.MIN, Scenes.MAX}) {
            s.due(call + " " + word + behind, OUT);
        }
    }

    private static void takesWords(String call, String behind) {
        takesWords(THREE, 3, call, behind);
        takesWords(Scenes.words(8), 8, call, behind);
        Script.fresh().due(call + " 0" + behind, OUT);
        Script.fresh().teach(Scenes.words(8)).teach(Scenes.words(2)).due(call + " 2" + behind, OUT).due(call + " 7" + behind, OUT);
        Scenes.refusedAmid(call + " 3" + behind, OUT);
        Scenes.refusedAmid(call + " -1" + behind, OUT);
    }

    // ---- 12

    static void promise12_returnsHowManyBeatsAWordHas() {
        Scenes.told(THREE).due("lengthOf 0", 4).due("lengthOf 1", 1).due("lengthOf 2", 24).due("turnPruned 2", "true").due("lengthOf 2", 24);
        Scenes.onlyAsksAmid("lengthOf 1", "4");
    }

    static void promise12_throwsIfThereIsNoSuchWord() {
        takesWords("lengthOf", "");
    }

    // ---- 13

    static void promise13_returnsThePitch() {
        Scenes.told(THREE).pitches(0, 7, 7, 0, 9).pitches(1, 5).due("pitchAt 2 0", 1).due("pitchAt 2 8", 1).due("pitchAt 2 9", 2).due("pitchAt 2 22", 3);
        Scenes.onlyAsksAmid("pitchAt 1 3", "18");
    }

    static void promise13_returns0ForSilence() {
        Scenes.told(THREE).due("pitchAt 0 2", 0).due("pitchAt 2 23", 0);
    }

    static void promise13_throwsIfThereIsNoSuchWord() {
        takesWords("pitchAt", " 0");
    }

    static void promise13_throwsIfItHasNoSuchBeat() {
        Script s = Scenes.told(THREE).due("pitchAt 0 3", 9).due("pitchAt 0 4", OUT).due("pitchAt 0 -1", OUT).due("pitchAt 1 0", 5).due("pitchAt 1 1", OUT);
        s.due("pitchAt 2 23", 0).due("pitchAt 2 24", OUT).due("pitchAt 2 25", OUT).due("pitchAt 0 " + Scenes.MIN, OUT).due("pitchAt 0 " + Scenes.MAX, OUT);
        Scenes.refusedAmid("pitchAt 0 3", OUT);
        Scenes.refusedAmid("pitchAt 0 -1", OUT);
    }

    // ---- 14

    static void promise14_returnsTheContour() {
        Scenes.told(THREE).due("contourAt 0 0", 0).due("contourAt 0 1", -1).due("contourAt 0 2", 1).due("contourAt 0 3", 0).due("contourAt 1 0", 0);
        Scenes.told(THREE).due("contourAt 2 8", 1).due("contourAt 2 17", 1).due("contourAt 2 22", -1).due("contourAt 2 23", 0);
        Scenes.told(THREE + "shift a by -99; shift c by 99;").due("passLessons 1", 2).due("contourAt 0 1", -1).due("contourAt 2 8", 0);
        Scenes.onlyAsksAmid("contourAt 1 0", "1");
    }

    static void promise14_throwsIfThereIsNoSuchWord() {
        takesWords("contourAt", " 0");
    }

    static void promise14_throwsIfItHasNoSuchBeat() {
        Script s = Scenes.told(THREE).due("contourAt 0 3", 0).due("contourAt 0 4", OUT).due("contourAt 0 -1", OUT).due("contourAt 1 0", 0).due("contourAt 1 1", OUT);
        s.due("contourAt 2 23", 0).due("contourAt 2 24", OUT).due("contourAt 0 " + Scenes.MIN, OUT).due("contourAt 0 " + Scenes.MAX, OUT);
        Scenes.refusedAmid("contourAt 0 3", OUT);
    }

    // ---- 15

    static void promise15_returnsWhetherAWordIsPruned() {
        Script s = Scenes.told(THREE + "prune b;").due("isPruned 0", "false").due("isPruned 1", "false").due("passLessons 1", 1).due("isPruned 1", "true");
        s.due("isPruned 0", "false").due("isPruned 2", "false").due("turnPruned 2", "true").due("isPruned 2", "true").due("turnPruned 1", "false").due("isPruned 1", "false");
        Scenes.onlyAsksAmid("isPruned 2", "true");
    }

    static void promise15_throwsIfThereIsNoSuchWord() {
        takesWords("isPruned", "");
    }

    // ---- 16

    static void promise16_returnsHowManyBeatsAreSilent() {
        Scenes.told(THREE).due("silentBeats 0", 1).due("silentBeats 1", 0).due("silentBeats 2", 1);
        Scenes.told("word a is rest for 9, rest for 9, rest for 6; word b is rest for 1, hold 1 for 1, rest for 2; word c is rest for 1;")
                .due("silentBeats 0", 24).due("silentBeats 1", 3).due("silentBeats 2", 1);
        // No beat behind its end is counted.
        Scenes.told("word a is rest for 9;").teach("word a is rest for 9;").teach("word a is rest for 2;").due("silentBeats 0", 2);
        Scenes.onlyAsksAmid("silentBeats 0", "1");
    }

    static void promise16_throwsIfThereIsNoSuchWord() {
        takesWords("silentBeats", "");
    }

    // ---- 17

    static void promise17_returnsTheDistanceOfBoth() {
        Script s = Scenes.told(THREE).due("distanceBetween 0 1", 2 + 2 + 10 + 4).due("distanceBetween 1 0", 18).due("distanceBetween 0 0", 0).due("distanceBetween 2 2", 0);
        s.due("turnPruned 0", "true").due("turnPruned 1", "true").due("distanceBetween 0 1", 18).due("distanceBetween 1 1", 0);
        Scenes.told(Scenes.word("a", 10) + Scenes.word("b", 13) + "shift b by 2;").due("passLessons 1", 1).due("distanceBetween 0 1", 5);
        Scenes.onlyAsksAmid("distanceBetween 1 2", "20");
    }

    static void promise17_throwsIfThereIsNoSuchWord() {
        takesWords("distanceBetween", " 0");
        takesWords("distanceBetween 0", "");
    }

    // ---- 18

    static void promise18_returnsTheContourDistanceOfBoth() {
        String lines = Scenes.word("a", 1, 5, 1, 5) + Scenes.word("b", 9, 3, 9, 3) + Scenes.word("c", 30, 31, 30, 31);
        Script s = Scenes.told(lines + "band 0;").due("contourBetween 0 1", 3).due("contourBetween 1 0", 3).due("contourBetween 0 2", 0).due("contourBetween 1 1", 0);
        s.due("turnPruned 0", "true").due("contourBetween 0 1", 3);
        // 1 1 1 0 against -1 0: each of the three ones costs 1.
        Scenes.told(Scenes.word("a", 1, 2, 3, 4) + Scenes.word("b", 2, 1) + "band 0;").due("contourBetween 0 1", 3).due("contourBetween 1 0", 3);
        Scenes.onlyAsksAmid("contourBetween 1 2", "3");
    }

    static void promise18_throwsIfThereIsNoSuchWord() {
        takesWords("contourBetween", " 0");
        takesWords("contourBetween 0", "");
    }

    // ---- 19

    static void promise19_returnsWhetherBothAreNear() {
        // 6 * 4 / 4 is 6.
        String lines = "word a is hold 10 for 4; word b is hold 10 for 3, hold 15 for 1; word c is hold 10 for 3, hold 16 for 1;";
        Script s = Scenes.told(lines).due("areNear 0 1", "true").due("areNear 1 0", "true").due("areNear 0 2", "false").due("areNear 2 0", "false").due("areNear 1 2", "true");
        s.due("turnPruned 0", "true").due("turnPruned 1", "true").due("areNear 0 1", "true").due("areNear 0 2", "false");
        Scenes.onlyAsksAmid("areNear 0 2", "false");
    }

    static void promise19_isFalseForTheSame() {
        Scenes.told(THREE + "near 99;").due("areNear 0 0", "false").due("areNear 1 1", "false").due("areNear 2 2", "false");
        Scenes.told(Scenes.word("a", 5) + Scenes.word("b", 5)).due("areNear 0 1", "true").due("areNear 0 0", "false").due("areNear 1 1", "false");
    }

    static void promise19_throwsIfThereIsNoSuchWord() {
        takesWords("areNear", " 0");
        takesWords("areNear 0", "");
        Scenes.told(THREE).due("areNear 3 3", OUT).due("areNear -1 -1", OUT);
    }

    // ---- 20

    static void promise20_returnsTheOtherWordWithTheSmallestDistance() {
        Script s = Scenes.told(Scenes.word("a", 10) + Scenes.word("b", 20) + Scenes.word("c", 12) + Scenes.word("d", 23));
        s.due("nearestTo 0", 2).due("nearestTo 1", 3).due("nearestTo 2", 0).due("nearestTo 3", 1);
        Scenes.told(Scenes.word("a", 1) + Scenes.word("b", 40)).due("nearestTo 0", 1).due("nearestTo 1", 0);
        Scenes.onlyAsksAmid("nearestTo 0", "2");
    }

    static void promise20_keptOrPruned() {
        Script s = Scenes.told(Scenes.word("a", 10) + Scenes.word("b", 20) + Scenes.word("c", 12)).due("turnPruned 2", "true").due("nearestTo 0", 2);
        s.due("turnPruned 0", "true").due("turnPruned 1", "true").due("nearestTo 0", 2).due("nearestTo 2", 0);
    }

    static void promise20_ofSeveralTheSmallestNumber() {
        Script s = Scenes.told(Scenes.word("a", 10) + Scenes.word("b", 12) + Scenes.word("c", 8) + Scenes.word("d", 10) + Scenes.word("e", 10));
        s.due("nearestTo 0", 3).due("nearestTo 3", 0).due("nearestTo 4", 0).due("nearestTo 1", 0).due("nearestTo 2", 0);
        Scenes.told(Scenes.word("a", 30) + Scenes.word("b", 12) + Scenes.word("c", 8) + Scenes.word("d", 10)).due("nearestTo 3", 1);
    }

    static void promise20_onlyOfTheWordsThatAreTold() {
        // Two languages earlier there was one word more, just the same as the first.
        String three = Scenes.word("a", 10) + Scenes.word("b", 40) + Scenes.word("c", 10);
        Scenes.told(three).teach(three).teach(Scenes.word("a", 10) + Scenes.word("b", 40)).due("nearestTo 0", 1).due("nearestTo 1", 0);
    }

    static void promise20_throwsIfThereIsNoSuchWord() {
        takesWords("nearestTo", "");
    }

    static void promise20_throwsIfThereIsNoOtherOne() {
        Scenes.told(Scenes.word("a", 10)).refused("nearestTo 0", STATE).due("nearestTo 1", OUT).due("nearestTo -1", OUT);
        Scenes.told(Scenes.word("a", 10) + Scenes.word("b", 40)).due("turnPruned 1", "true").due("nearestTo 0", 1);
    }

    // ---- 21

    static void promise21_returnsWhetherAKeptWordWithASmallerNumberIsNear() {
        // 6 * 4 / 4 is 6: b is 5 from a, c is 6 from a and 1 from b.
        String lines = "word a is hold 10 for 4; word b is hold 10 for 3, hold 15 for 1; word c is hold 10 for 3, hold 16 for 1;";
        Script s = Scenes.told(lines).due("isNeedless 0", "false").due("isNeedless 1", "true").due("isNeedless 2", "true");
        s.due("turnPruned 1", "true").due("isNeedless 2", "false").due("turnPruned 1", "false").due("turnPruned 0", "true").due("isNeedless 1", "false").due("isNeedless 2", "true");
        Scenes.onlyAsksAmid("isNeedless 1", "false");
    }

    static void promise21_aWordWithAGreaterNumberMakesNoneNeedless() {
        Scenes.told(Scenes.word("a", 5) + Scenes.word("b", 5)).due("isNeedless 0", "false").due("isNeedless 1", "true").due("turnPruned 0", "true").due("isNeedless 1", "false");
    }

    static void promise21_aPrunedWordIsNotNeedless() {
        Script s = Scenes.told(Scenes.word("a", 5) + Scenes.word("b", 5)).due("turnPruned 1", "true").due("isNeedless 1", "false");
        s.due("turnPruned 1", "false").due("isNeedless 1", "true");
    }

    static void promise21_throwsIfThereIsNoSuchWord() {
        takesWords("isNeedless", "");
    }
}
