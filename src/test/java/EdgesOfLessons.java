/** Promises 33 to 38: lessons, and what would be. */
final class EdgesOfLessons {
    private static final String OUT = Scenes.OUT;
    private static final String WRONG = Scenes.WRONG;
    private static final String STATE = Scenes.STATE;
    private static final String A = Scenes.word("a", 10);
    private static final String B = Scenes.word("b", 20);

    private EdgesOfLessons() {
    }

    // ---- 33

    static void promise33_letsLessonsGoBy() {
        Script s = Scenes.told(A + B + "shift a by 1; prune b when lesson = 3;").due("passLessons 3", 3).due("lessons", 3).due("pitchAt 0 0", 13).due("isPruned 1", "false");
        s.due("passLessons 1", 2).due("isPruned 1", "true").due("lessons", 4);
    }

    static void promise33_returnsHowManyRulesAreCarriedOutInThem() {
        Script s = Scenes.told(Scenes.word("a", 1) + "shift a by 1; prune a; restore a;").due("passLessons 1", 3).due("passLessons 20", 60).due("passLessons 18", 54);
        s.due("passLessons 1", 2).due("passLessons 20", 40).due("rulesCarriedOut", 159);
        // Sixteen rules, all of them carried out.
        Scenes.told(A + "prune a; restore a;".repeat(8)).due("passLessons 1", 16).due("passLessons 20", 320);
        Scenes.told(A).due("passLessons 20", 0);
    }

    static void promise33_throwsIfLessonsIsNot1To20() {
        Script s = Scenes.told(A + "shift a by 1;").refused("passLessons 0", WRONG).refused("passLessons 21", WRONG).refused("passLessons -1", WRONG);
        s.refused("passLessons " + Scenes.MIN, WRONG).refused("passLessons " + Scenes.MAX, WRONG).due("lessons", 0).due("pitchAt 0 0", 10);
        s.due("passLessons 1", 1).due("lessons", 1).due("passLessons 20", 20).due("lessons", 21).due("pitchAt 0 0", 31);
        Script.fresh().due("passLessons 0", WRONG).due("passLessons 21", WRONG).due("passLessons 20", 0);
        Scenes.refusedAmid("passLessons 0", WRONG);
        Scenes.refusedAmid("passLessons 21", WRONG);
    }

    static void promise33_changesNeitherTheTapeNorWhatWasHeardNorTheLatestError() {
        Scenes.amid().due("passLessons 1", 1).heard(12, 0).due("errorAt", 4).due("trim 8", WRONG).due("trim 7", 7).due("teach", 0);
    }

    // ---- 34

    static void promise34_returnsHowManyWordsAreKeptBehindThem() {
        String rules = "prune a when lesson = 1; prune b when lesson = 18; prune c when lesson = 19; prune d when lesson = 20;";
        Script s = Scenes.told(A + B + Scenes.word("c", 1) + Scenes.word("d", 2) + rules).due("keptAfter 1", 4).due("keptAfter 2", 3).due("keptAfter 18", 3);
        s.due("keptAfter 19", 2).due("keptAfter 20", 1).due("turnPruned 3", "true").due("keptAfter 1", 3).due("keptAfter 20", 0).due("passLessons 1", 0);
        s.due("keptAfter 1", 2).due("keptAfter 18", 1).due("keptAfter 20", 0);
        Scenes.told(A + "restore a when pruned a;").due("turnPruned 0", "true").due("keptAfter 1", 1).due("isPruned 0", "true");
    }

    static void promise34_withWhatWasHeardAndWhatIsShiftedOnTheWay() {
        // a goes 1 to the beat that was heard in each lesson, and is pruned as it is there.
        Script s = Scenes.told(A + "shift a by 1; prune a when distance of a = 0;").due("keptAfter 20", 1).hear(13).due("keptAfter 2", 1).due("keptAfter 3", 0);
        s.due("keptAfter 2", 1).due("distanceTo 0", 3).due("pitchAt 0 0", 10);
    }

    static void promise34_throwsIfLessonsIsNot1To20() {
        Script s = Scenes.told(A + "prune a;").refused("keptAfter 0", WRONG).refused("keptAfter 21", WRONG).refused("keptAfter -1", WRONG);
        s.refused("keptAfter " + Scenes.MIN, WRONG).refused("keptAfter " + Scenes.MAX, WRONG).due("keptAfter 1", 0).due("keptAfter 20", 0).due("keptWords", 1);
        Script.fresh().due("keptAfter 0", WRONG).due("keptAfter 21", WRONG).due("keptAfter 1", 0);
        Scenes.refusedAmid("keptAfter 0", WRONG);
        Scenes.refusedAmid("keptAfter 21", WRONG);
    }

    static void promise34_changesNothing() {
        Scenes.onlyAsksAmid("keptAfter 1", "2");
        Scenes.onlyAsksAmid("keptAfter 20", "2");
    }

    // ---- 35

    static void promise35_returnsBehindHowManyLessonsItIsTheWordThatWasMeant() {
        Script s = Scenes.told(A + B + "shift b by -1;").hear(11).due("lessonsUntilMeant 1", 9).due("lessonsUntilMeant 0", 0).due("passLessons 4", 4);
        s.due("lessonsUntilMeant 1", 5).due("passLessons 4", 4).due("lessonsUntilMeant 1", 1).due("passLessons 1", 1).due("lessonsUntilMeant 1", 0);
        // b is at 11, one lesson later it is as far as a, and then farther.
        s.due("meantWord", 1).due("lessonsUntilMeant 0", 1);
    }

    static void promise35_0IfItIsNow() {
        Scenes.told(A + B + "prune a;").hear(10).due("lessonsUntilMeant 0", 0).due("lessonsUntilMeant 1", 1);
    }

    static void promise35_atMost20() {
        Scenes.told(A + B + "prune a when lesson = 19;").hear(10).due("lessonsUntilMeant 1", 20).due("passLessons 1", 0).due("lessonsUntilMeant 1", 19);
        Scenes.told(A + B + "prune a when lesson = 18;").hear(10).due("lessonsUntilMeant 1", 19);
    }

    static void promise35_minus1IfNotByThen() {
        Scenes.told(A + B + "prune a when lesson = 20;").hear(10).due("lessonsUntilMeant 1", -1).due("passLessons 1", 0).due("lessonsUntilMeant 1", 20);
        Scenes.told(A + B).due("lessonsUntilMeant 0", -1).due("lessonsUntilMeant 1", -1).hear(10).due("lessonsUntilMeant 0", 0).due("lessonsUntilMeant 1", -1);
        Scenes.told(A).hear(10).due("turnPruned 0", "true").due("lessonsUntilMeant 0", -1);
    }

    static void promise35_onlyForAWhile() {
        Script s = Scenes.told(A + B + "prune a when lesson = 3; restore a when lesson = 4;").hear(10).due("lessonsUntilMeant 1", 4).due("passLessons 4", 1);
        s.due("lessonsUntilMeant 1", 0).due("lessonsUntilMeant 0", 1).due("passLessons 1", 1).due("lessonsUntilMeant 1", -1);
    }

    static void promise35_throwsIfThereIsNoSuchWord() {
        Scenes.told(A + B).due("lessonsUntilMeant 1", -1).due("lessonsUntilMeant 2", OUT).due("lessonsUntilMeant -1", OUT).due("lessonsUntilMeant " + Scenes.MIN, OUT)
                .due("lessonsUntilMeant " + Scenes.MAX, OUT).hear(5).due("lessonsUntilMeant 2", OUT);
        Scenes.told(Scenes.words(8)).hear(40).due("lessonsUntilMeant 7", 0).due("lessonsUntilMeant 8", OUT);
        Script.fresh().due("lessonsUntilMeant 0", OUT).due("lessonsUntilMeant -1", OUT);
        Scenes.refusedAmid("lessonsUntilMeant 3", OUT);
        Scenes.refusedAmid("lessonsUntilMeant -1", OUT);
    }

    static void promise35_changesNothing() {
        Scenes.onlyAsksAmid("lessonsUntilMeant 0", "0");
        Scenes.onlyAsksAmid("lessonsUntilMeant 1", "-1");
        Scenes.onlyAsksAmid("lessonsUntilMeant 2", "8");
    }

    // ---- 36

    static void promise36_returnsByHowMuchWhatWasHeardHadBestBeGreater() {
        Script s = Scenes.told(Scenes.word("a", 10, 15) + Scenes.word("b", 30)).hear(12, 17).due("bestShift 0", -2).due("bestShift 1", 13).due("forget", 2);
        s.hear(3, 8).due("bestShift 0", 7).due("forget", 2).hear(10, 15).due("bestShift 0", 0).due("turnPruned 0", "true").due("bestShift 0", 0);
    }

    static void promise36_fromMinus39To39() {
        Script s = Scenes.told(Scenes.word("a", 1) + Scenes.word("b", 40)).hear(1).due("bestShift 0", 0).due("bestShift 1", 39).due("forget", 1);
        s.hear(40).due("bestShift 0", -39).due("bestShift 1", 0).due("forget", 1).hear(2).due("bestShift 0", -1).due("bestShift 1", 38);
    }

    static void promise36_eachPitchHeldAt40() {
        // 30 and 40 against 40 and 40: 10 is enough, as 40 stays.
        Scenes.told(Scenes.word("a", 40, 40) + "band 0;").hear(30, 40).due("bestShift 0", 10);
        Scenes.told(Scenes.word("a", 39, 40) + "band 0;").hear(30, 40).due("bestShift 0", 9);
    }

    static void promise36_eachPitchHeldAt1() {
        Scenes.told(Scenes.word("a", 1, 1) + "band 0;").hear(11, 1).due("bestShift 0", -10);
        Scenes.told(Scenes.word("a", 2, 1) + "band 0;").hear(11, 1).due("bestShift 0", -9);
    }

    static void promise36_silentBeatsAsTheyAre() {
        // Each silent beat costs as much with every shift, so that only the other one counts.
        Scenes.told(Scenes.word("a", 10, 0) + "band 0;").hear(5, 0).due("bestShift 0", 5);
        Scenes.told(Scenes.word("a", 7)).hear(0).due("bestShift 0", 0).hear(0).due("bestShift 0", 0);
        Scenes.told(Scenes.word("a", 0)).hear(7).due("bestShift 0", 0);
        Scenes.told(Scenes.word("a", 20, 20, 20) + "band 0;").hear(0, 0, 15).due("bestShift 0", 5);
    }

    static void promise36_ofSeveralTheOneNearestTo0() {
        // 10 and 14 against 7: from 3 to 7 all cost 4.
        Scenes.told(Scenes.word("a", 10, 14)).hear(7).due("bestShift 0", 3);
        Scenes.told(Scenes.word("a", 10, 14)).hear(17).due("bestShift 0", -3);
        Scenes.told(Scenes.word("a", 10, 14)).hear(11).due("bestShift 0", 0);
    }

    static void promise36_ofTwoAsNearTheGreaterOne() {
        // 10 20 30 against 15 25: 10 for 5 greater and for 5 smaller, more for all between.
        Script s = Scenes.told(Scenes.word("a", 10, 20, 30)).hear(15, 25).due("distanceTo 0", 15).due("bestShift 0", 5);
        s.due("forget", 2).hear(14, 24).due("bestShift 0", -4).due("forget", 2).hear(16, 26).due("bestShift 0", 4);
    }

    static void promise36_throwsIfThereIsNoSuchWord() {
        Scenes.told(A + B).due("bestShift 0", STATE).due("bestShift 2", OUT).due("bestShift -1", OUT).hear(5).due("bestShift 1", 15).due("bestShift 2", OUT)
                .due("bestShift -1", OUT).due("bestShift " + Scenes.MIN, OUT).due("bestShift " + Scenes.MAX, OUT);
        Scenes.told(Scenes.words(8)).hear(40).due("bestShift 7", -32).due("bestShift 8", OUT);
        Script.fresh().hear(5).due("bestShift 0", OUT);
        Scenes.refusedAmid("bestShift 3", OUT);
        Scenes.refusedAmid("bestShift -1", OUT);
    }

    static void promise36_throwsIfNoBeatWasHeard() {
        Script s = Scenes.told(A + B).refused("bestShift 0", STATE).hear(0).due("bestShift 0", 0).due("forget", 1).refused("bestShift 1", STATE).hear(5).teach(A);
        s.due("bestShift 0", STATE);
    }

    static void promise36_changesNothing() {
        Script s = Scenes.told(Scenes.word("a", 40) + Scenes.word("b", 1)).hear(20, 0, 3).due("bestShift 0", 37).heard(20, 0, 3);
        s.due("distanceTo 0", 67).due("bestShift 1", -19).heard(20, 0, 3).due("distanceTo 0", 67).changesNothing("bestShift 0");
        Scenes.onlyAsksAmid("bestShift 1", "2");
    }

    // ---- 37

    static void promise37_returnsTheMeanNumberOfBeats() {
        Scenes.told(A).due("meanLength", "1.0").teach("word a is rest for 2;" + B).due("meanLength", "1.5").due("turnPruned 0", "true").due("meanLength", "1.5");
        Scenes.told("word a is rest for 2;" + B + Scenes.word("c", 1)).due("meanLength", String.valueOf(4.0 / 3));
        Scenes.told("word a is rest for 9, rest for 9, rest for 6;").due("meanLength", "24.0");
        Scenes.told(Scenes.words(7) + "word x is rest for 2;").due("meanLength", "1.125");
        Scenes.onlyAsksAmid("meanLength", String.valueOf(10.0 / 3));
    }

    static void promise37_onlyOfTheWordsThatAreTold() {
        String three = A + B + "word c is rest for 9;";
        Scenes.told(three).teach(three).teach(A + B).due("meanLength", "1.0").teach(A + "word b is rest for 2;").due("meanLength", "1.5");
    }

    static void promise37_is0WithoutAnyWord() {
        Script.fresh().due("meanLength", "0.0").hear(5).due("meanLength", "0.0").teach(A).teach("").due("meanLength", "0.0");
    }

    // ---- 38

    private static long checksum(long... numbers) {
        long d = 1019;
        for (long x : numbers) {
            d = d * 31 + x;
        }
        return d;
    }

    static void promise38_startsWith1019AndTakesTheCountsInTheirOrder() {
        Script.fresh().due("digest", checksum(0, 0, 0, 0, 0, 0, -1)).hear(5, 0).due("digest", checksum(0, 0, 0, 0, 0, 2, -1, 5, 0));
        Script.fresh().due("passLessons 7", 0).due("digest", checksum(0, 0, 0, 7, 0, 0, -1));
        Script s = Scenes.told(A + "prune a; shift a by 1; restore a;").due("digest", checksum(1, 1, 3, 0, 0, 0, -1, 1, 0, 0, 10, 0)).due("passLessons 2", 6);
        s.due("digest", checksum(1, 1, 3, 2, 6, 0, -1, 1, 0, 0, 12, 0)).due("turnPruned 0", "true").due("digest", checksum(1, 0, 3, 2, 6, 0, -1, 1, 1, 0, 12, 0));
    }

    static void promise38_takesTheWordThatWasMeant() {
        Script s = Scenes.told(A + Scenes.word("b", 20, 0)).hear(20).due("digest", checksum(2, 2, 0, 0, 0, 1, 0, 1, 0, 0, 10, 0, 20, 2, 0, 0, 20, 0, 20, 0, 20));
        s.hear(0).due("digest", checksum(2, 2, 0, 0, 0, 2, 1, 1, 0, 0, 10, 0, 20, 2, 0, 0, 20, 0, 20, 0, 20, 0)).due("turnPruned 0", "true");
        s.due("turnPruned 1", "true").due("digest", checksum(2, 0, 0, 0, 0, 2, -1, 1, 1, 0, 10, 0, 20, 2, 1, 0, 20, 0, 20, 0, 20, 0));
    }

    static void promise38_takesOfEachWordItsPitchesAndThenItsDistances() {
        // a and c are the same, b is 2 from both: 6 * 2 / 4 is 3, so that both are near a, and c is near b.
        Script s = Scenes.told(Scenes.word("a", 10, 12) + Scenes.word("b", 11, 13) + Scenes.word("c", 10, 12)).due("distanceBetween 0 1", 2);
        s.due("digest", checksum(3, 3, 0, 0, 0, 0, -1, 2, 0, 0, 10, 12, 0, 2, 0, 2, 0, 1, 11, 13, 2, 0, 2, 2, 0, 1, 10, 12, 0, 2, 0)).due("turnPruned 1", "true");
        s.due("digest", checksum(3, 2, 0, 0, 0, 0, -1, 2, 0, 0, 10, 12, 0, 2, 0, 2, 1, 0, 11, 13, 2, 0, 2, 2, 0, 1, 10, 12, 0, 2, 0));
    }

    static void promise38_wrapsAroundIn64Bits() {
        // 7 + 8 * (3 + 24 + 8) numbers, far more than 64 bits hold.
        StringBuilder lines = new StringBuilder();
        long[] numbers = new long[7 + 8 * 35];
        numbers[0] = 8;
        numbers[1] = 8;
        numbers[6] = -1;
        for (int word = 0; word < 8; word++) {
            int pitch = 1 + 5 * word;
            lines.append("word w").append(word).append(" is hold ").append(pitch).append(" for 9, hold ").append(pitch).append(" for 9, hold ").append(pitch).append(" for 6;");
            int at = 7 + 35 * word;
            numbers[at] = 24;
            for (int k = 0; k < 24; k++) {
                numbers[at + 3 + k] = pitch;
            }
            for (int other = 0; other < 8; other++) {
                numbers[at + 27 + other] = 24 * 5 * Math.abs(word - other);
            }
        }
        Scenes.told(lines.toString()).due("digest", checksum(numbers));
    }

    static void promise38_changesNothing() {
        Scenes.amid().changesNothing("digest").changesNothing("digest").due("trim 8", WRONG).due("trim 7", 7).due("teach", 0);
    }
}
