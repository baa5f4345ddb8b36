/** "Terms", section 2: lessons, what stands in tests and sums, and exceptions. */
final class TermsOfLessons {
    private static final String A = Scenes.word("a", 10);
    private static final String B = Scenes.word("b", 20);

    private TermsOfLessons() {
    }

    // ---- a lesson

    static void terms2_rulesTakeTheirTurnsInTheOrderInWhichTheyAreTold() {
        Scenes.told(A + "prune a; restore a;").due("passLessons 1", 2).due("isPruned 0", "false");
        Scenes.told(A + "restore a; prune a;").due("passLessons 1", 1).due("isPruned 0", "true");
        Scenes.told(A + "shift a by 40; shift a by -3;").due("passLessons 1", 2).due("pitchAt 0 0", 37);
        Scenes.told(A + "shift a by -40; shift a by 3;").due("passLessons 1", 2).due("pitchAt 0 0", 4);
    }

    static void terms2_aTestIsAskedAsItsRuleComesToItsTurn() {
        Scenes.told(A + B + "prune a; prune b when pruned a;").due("passLessons 1", 2).due("isPruned 1", "true");
        Scenes.told(A + B + "prune b when pruned a; prune a;").due("passLessons 1", 1).due("isPruned 1", "false").due("passLessons 1", 1).due("isPruned 1", "true");
        Scenes.told(A + B + "prune a; prune b when kept = 1;").due("passLessons 1", 2);
        Scenes.told(A + B + "shift b by -8; prune a when heard b;").hear(12).due("passLessons 1", 2).due("isPruned 0", "true");
        Scenes.told(A + B + "shift b by -8; prune a when distance of b = 0;").hear(12).due("passLessons 1", 2).due("isPruned 0", "true");
        Scenes.told(A + B + "prune a when distance of b = 0; shift b by -8;").hear(12).due("passLessons 1", 1).due("passLessons 1", 2);
    }

    static void terms2_aSumIsReckonedAsItsRuleComesToItsTurn() {
        Scenes.told(A + B + "prune b; shift a by kept;").due("passLessons 1", 2).due("pitchAt 0 0", 11).due("passLessons 1", 1).due("pitchAt 0 0", 12);
        Scenes.told(A + B + "shift a by 2; shift b by distance of a;").hear(10).due("passLessons 1", 2).due("pitchAt 1 0", 22);
    }

    static void terms2_aRuleWithATestWaitsUntilItHolds() {
        Script s = Scenes.told(A + "prune a when lesson = 2;").due("passLessons 1", 0).due("passLessons 1", 0).due("isPruned 0", "false");
        s.due("passLessons 1", 1).due("isPruned 0", "true");
    }

    static void terms2_aRuleWithoutATestIsForEachLesson() {
        Scenes.told(A + "shift a by 1;").due("passLessons 1", 1).due("passLessons 1", 1).due("pitchAt 0 0", 12).due("passLessons 20", 20).due("pitchAt 0 0", 32);
    }

    static void terms2_pruneAndRestore() {
        Script s = Scenes.told(A + B + "prune b when lesson = 0; restore b when lesson = 1;").due("passLessons 1", 1).due("isPruned 1", "true").due("isPruned 0", "false");
        s.due("keptWords", 1).due("passLessons 1", 1).due("isPruned 1", "false").due("keptWords", 2);
    }

    static void terms2_aShiftMakesEachPitchSoMuchGreater() {
        Scenes.told(Scenes.word("a", 5, 9, 30) + B + "shift a by 7;").due("passLessons 1", 1).pitches(0, 12, 16, 37).pitches(1, 20);
        Scenes.told(Scenes.word("a", 5, 9, 30) + B + "shift a by 0 - 4;").due("passLessons 1", 1).pitches(0, 1, 5, 26).pitches(1, 20);
        Scenes.told(A + "prune a; shift a by 1;").due("passLessons 1", 2).due("pitchAt 0 0", 11);
    }

    static void terms2_aShiftIsHeldAt40() {
        String word = Scenes.word("a", 38, 1, 39);
        Scenes.told(word + "shift a by 1;").due("passLessons 1", 1).pitches(0, 39, 2, 40);
        Scenes.told(word + "shift a by 2;").due("passLessons 1", 1).pitches(0, 40, 3, 40);
        Scenes.told(word + "shift a by 3;").due("passLessons 1", 1).pitches(0, 40, 4, 40);
        Scenes.told(word + "shift a by 38;").due("passLessons 1", 1).pitches(0, 40, 39, 40);
        Scenes.told(word + "shift a by 999999;").due("passLessons 1", 1).pitches(0, 40, 40, 40);
    }

    static void terms2_aShiftIsHeldAt1() {
        String word = Scenes.word("a", 2, 40, 3);
        Scenes.told(word + "shift a by -1;").due("passLessons 1", 1).pitches(0, 1, 39, 2);
        Scenes.told(word + "shift a by -2;").due("passLessons 1", 1).pitches(0, 1, 38, 1);
        Scenes.told(word + "shift a by -38;").due("passLessons 1", 1).pitches(0, 1, 2, 1);
        Scenes.told(word + "shift a by -999999;").due("passLessons 1", 1).pitches(0, 1, 1, 1);
    }

    static void terms2_nothingWrapsAroundInAShift() {
        String word = Scenes.word("a", 1, 20, 40);
        Scenes.told(word + "shift a by " + Scenes.GREATEST + ";").due("passLessons 1", 1).pitches(0, 40, 40, 40);
        Scenes.told(word + "shift a by " + Scenes.LEAST + ";").due("passLessons 1", 1).pitches(0, 1, 1, 1);
        // The sum itself does.
        Scenes.told(word + "shift a by " + Scenes.GREATEST + " + 1;").due("passLessons 1", 1).pitches(0, 1, 1, 1);
    }

    static void terms2_silentBeatsStayInAShift() {
        Scenes.told(Scenes.word("a", 5, 0, 9) + "shift a by 7;").due("passLessons 1", 1).pitches(0, 12, 0, 16).due("silentBeats 0", 1);
        Scenes.told(Scenes.word("a", 5, 0, 9) + "shift a by -99;").due("passLessons 1", 1).pitches(0, 1, 0, 1);
        Scenes.told(Scenes.word("a", 5, 0, 9) + "shift a by 99;").due("passLessons 1", 1).pitches(0, 40, 0, 40);
    }

    static void terms2_aRuleThatChangesNothingIsNotCarriedOut() {
        Scenes.told(A + "restore a;").due("passLessons 1", 0).due("rulesCarriedOut", 0);
        Scenes.told(A + "prune a;").due("passLessons 1", 1).due("passLessons 1", 0).due("rulesCarriedOut", 1);
        Scenes.told(A + "shift a by 0;").due("passLessons 1", 0);
        Scenes.told(Scenes.word("a", 40, 0) + "shift a by 1;").due("passLessons 1", 0).pitches(0, 40, 0);
        Scenes.told(Scenes.word("a", 1, 0) + "shift a by -1;").due("passLessons 1", 0).pitches(0, 1, 0);
        Scenes.told(Scenes.word("a", 0, 0) + "shift a by 5;").due("passLessons 1", 0).pitches(0, 0, 0);
    }

    static void terms2_aRuleThatChangesSomethingIsCarriedOut() {
        // Be it the first of several pitches, one between them or the last.
        Scenes.told(Scenes.word("a", 39, 40, 40) + "shift a by 5;").due("passLessons 1", 1).due("rulesCarriedOut", 1);
        Scenes.told(Scenes.word("a", 40, 0, 39, 40) + "shift a by 5;").due("passLessons 1", 1);
        Scenes.told(Scenes.word("a", 1, 1, 2) + "shift a by -5;").due("passLessons 1", 1);
        Scenes.told(A + "prune a; restore a; prune a;").due("passLessons 1", 3).due("passLessons 1", 2).due("rulesCarriedOut", 5);
    }

    static void terms2_behindTheRulesTheNumberOfLessonsIs1Greater() {
        Script s = Scenes.told(A + "shift a by 1 when lesson = 0; shift a by 2 when lesson = 0; shift a by 4 when lesson = 1;");
        s.due("lessons", 0).due("passLessons 1", 2).due("lessons", 1).due("pitchAt 0 0", 13).due("passLessons 1", 1).due("pitchAt 0 0", 17).due("lessons", 2);
        Script.fresh().due("passLessons 1", 0).due("lessons", 1);
    }

    // ---- in tests and sums

    static void terms2_lessonIsTheNumberOfLessonsThatWentBy() {
        Script s = Scenes.told(A + "shift a by lesson;").due("passLessons 1", 0).due("pitchAt 0 0", 10).due("passLessons 1", 1).due("pitchAt 0 0", 11);
        s.due("passLessons 2", 2).due("pitchAt 0 0", 16);
    }

    static void terms2_keptIsHowManyWordsAreKept() {
        Script s = Scenes.told(A + B + Scenes.word("c", 30) + "shift a by kept;").due("passLessons 1", 1).due("pitchAt 0 0", 13).due("turnPruned 2", "true");
        s.due("passLessons 1", 1).due("pitchAt 0 0", 15).due("turnPruned 0", "true").due("turnPruned 1", "true").due("passLessons 1", 0);
    }

    static void terms2_distanceIsThatOfAWordFromWhatWasHeard() {
        Script s = Scenes.told(A + Scenes.word("b", 20, 20) + "shift a by distance of b;").hear(18).due("passLessons 1", 1).due("pitchAt 0 0", 14);
        s.hear(19).due("passLessons 1", 1).due("pitchAt 0 0", 17).due("turnPruned 1", "true").due("passLessons 1", 1).due("pitchAt 0 0", 20);
    }

    static void terms2_distanceIs999IfNoBeatWasHeard() {
        Script s = Scenes.told(A + "shift a by distance of a - 998;").due("passLessons 1", 1).due("pitchAt 0 0", 11).hear(11).due("passLessons 1", 1).due("pitchAt 0 0", 1);
        s.due("forget", 1).due("passLessons 1", 1).due("pitchAt 0 0", 2);
        Scenes.told(A + "prune a when distance of a = 999;").hear(10).due("passLessons 1", 0);
    }

    static void terms2_lengthIsHowManyBeatsAWordHas() {
        Scenes.told(A + "word b is hold 3 for 9, rest for 9, hold 1 for 6; shift a by length of b; shift a by length of a;")
                .due("passLessons 1", 2).due("pitchAt 0 0", 35);
    }

    static void terms2_heardHoldsIfTheWordWasMeant() {
        String rules = "shift a by 1 when heard a; shift b by 1 when heard b;";
        Scenes.told(A + B + rules).due("passLessons 1", 0).hear(11).due("passLessons 1", 1).pitches(0, 11).pitches(1, 20);
        Scenes.told(A + B + rules).hear(19).due("passLessons 1", 1).pitches(0, 10).pitches(1, 21);
        Scenes.told(A + B + rules).hear(10).due("turnPruned 0", "true").due("passLessons 1", 1).pitches(1, 21).due("turnPruned 1", "true").due("passLessons 1", 0);
    }

    static void terms2_prunedHoldsIfTheWordIsPruned() {
        Script s = Scenes.told(A + B + "shift a by 1 when pruned a; shift b by 1 when pruned b;").due("passLessons 1", 0).due("turnPruned 1", "true");
        s.due("passLessons 1", 1).pitches(0, 10).pitches(1, 21).due("turnPruned 0", "true").due("passLessons 1", 2);
    }

    static void terms2_theComparisons() {
        Scenes.holds("1 < 2", true);
        Scenes.holds("2 < 2", false);
        Scenes.holds("2 > 1", true);
        Scenes.holds("2 > 2", false);
        Scenes.holds("2 = 2", true);
        Scenes.holds("1 = 2", false);
        Scenes.holds("2 <= 2", true);
        Scenes.holds("3 <= 2", false);
        Scenes.holds("1 <= 2", true);
        Scenes.holds("2 >= 2", true);
        Scenes.holds("2 >= 3", false);
        Scenes.holds("3 >= 2", true);
    }

    static void terms2_orHoldsIfOneSideHolds() {
        Scenes.holds("1 < 2 or 1 < 2", true);
        Scenes.holds("1 < 2 or 2 < 1", true);
        Scenes.holds("2 < 1 or 1 < 2", true);
        Scenes.holds("2 < 1 or 2 < 1", false);
    }

    static void terms2_andHoldsIfBothSidesHold() {
        Scenes.holds("1 < 2 and 1 < 2", true);
        Scenes.holds("1 < 2 and 2 < 1", false);
        Scenes.holds("2 < 1 and 1 < 2", false);
        Scenes.holds("2 < 1 and 2 < 1", false);
    }

    /** Whether the test holds, with 12 heard, a word a of 10 kept and two words b and c of 12 and 11, b of them pruned. */
    private static void holdsAmidWords(String test, boolean want) {
        Script s = Scenes.told(A + Scenes.word("b", 12) + Scenes.word("c", 11) + "shift a by 9 when " + test + ";").hear(12).due("turnPruned 1", "true");
        Script.compare(test, s.answer("passLessons 1"), want ? "1" : "0");
    }

    static void terms2_allKindsOfTestsAreJoinedAlike() {
        holdsAmidWords("heard c", true);
        holdsAmidWords("heard b", false);
        holdsAmidWords("pruned b", true);
        holdsAmidWords("pruned c", false);
        holdsAmidWords("heard c and pruned b", true);
        holdsAmidWords("pruned b and heard c", true);
        holdsAmidWords("heard c and 1 < 2", true);
        holdsAmidWords("1 < 2 and pruned b", true);
        holdsAmidWords("heard a and pruned b", false);
        holdsAmidWords("heard c and pruned a", false);
        holdsAmidWords("heard a or pruned b", true);
        holdsAmidWords("heard c or pruned a", true);
        holdsAmidWords("heard a or pruned a", false);
        holdsAmidWords("not heard a and not pruned a", true);
        holdsAmidWords("not heard c or not pruned b", false);
        holdsAmidWords("not not heard c and not not pruned b", true);
        holdsAmidWords("[heard c or pruned a] and [pruned b or heard a]", true);
    }

    static void terms2_andBindsMoreThanOr() {
        Scenes.holds("1 < 2 or 1 < 2 and 2 < 1", true);
        Scenes.holds("2 < 1 and 1 < 2 or 1 < 2", true);
        Scenes.holds("[1 < 2 or 1 < 2] and 2 < 1", false);
        Scenes.holds("2 < 1 and [1 < 2 or 1 < 2]", false);
    }

    static void terms2_notBindsMoreThanAnd() {
        Scenes.holds("not 2 < 1 and 1 < 2", true);
        Scenes.holds("not 1 < 2 and 2 < 1", false);
        Scenes.holds("not [1 < 2 and 2 < 1]", true);
        Scenes.holds("not 1 < 2 or 1 < 2", true);
        Scenes.holds("not [1 < 2 or 1 < 2]", false);
        Scenes.holds("not not 1 < 2", true);
    }

    static void terms2_productsBindMoreThanSumsAndBothGoFromLeftToRight() {
        Scenes.holds("2 + 3 * 4 = 14", true);
        Scenes.holds("(2 + 3) * 4 = 20", true);
        Scenes.holds("20 - 3 - 4 = 13", true);
        Scenes.holds("20 - (3 - 4) = 21", true);
        Scenes.holds("20 / 3 * 2 = 12", true);
        Scenes.holds("2 * 20 / 3 = 13", true);
        Scenes.holds("100 / 5 / 2 = 10", true);
        Scenes.holds("100 / (5 / 2) = 50", true);
        Scenes.holds("20 - 6 / 2 = 17", true);
        Scenes.holds("-2 + 3 = 1", true);
        Scenes.holds("-(2 + 3) = -5", true);
        Scenes.holds("--2 = 2", true);
        Scenes.holds("3 --2 = 5", true);
    }

    static void terms2_minAndMax() {
        Scenes.holds("min(3, 5) = 3", true);
        Scenes.holds("min(5, 3) = 3", true);
        Scenes.holds("max(3, 5) = 5", true);
        Scenes.holds("max(5, 3) = 5", true);
        Scenes.holds("min(-3, -5) = -5", true);
        Scenes.holds("max(-3, -5) = -3", true);
        Scenes.holds("min(4, 4) = max(4, 4)", true);
        Scenes.holds("min(" + Scenes.LEAST + ", " + Scenes.GREATEST + ") = " + Scenes.LEAST, true);
        Scenes.holds("max(" + Scenes.LEAST + ", " + Scenes.GREATEST + ") = " + Scenes.GREATEST, true);
        Scenes.holds("max(1, min(9, 5)) * 2 = 10", true);
    }

    // ---- exceptions

    static void terms2_aMethodThatThrowsAnExceptionChangesNothing() {
        for (String call : new String[] {"lengthOf 3", "pitchAt 3 0", "pitchAt 0 3", "contourAt -1 0", "contourAt 1 4", "isPruned 3", "silentBeats -1",
            "distanceBetween 0 3", "contourBetween -1 0", "areNear 3 3", "nearestTo 3", "isNeedless 3", "heardPitch 2", "distanceTo 3", "contourTo 3",
            "stepsTo 3", "hearWord 3 0", "turnPruned 3", "lessonsUntilMeant 3", "bestShift 3"}) {
            Scenes.refusedAmid(call, Scenes.OUT);
        }
        for (String call : new String[] {"trim 8", "trim -1", "hear 41", "hear -1", "hearWord 0 40", "hearWord 0 -40", "passLessons 21", "passLessons 0",
            "keptAfter 21", "keptAfter 0"}) {
            Scenes.refusedAmid(call, Scenes.WRONG);
        }
    }

    static void terms2_ofSeveralExceptionsTheOneNamedFirstIsThrown() {
        // One word, nothing heard: no such word, no other one, no beat.
        Script s = Scenes.told(A);
        for (String call : new String[] {"nearestTo", "distanceTo", "contourTo", "stepsTo", "bestShift"}) {
            s.due(call + " 0", Scenes.STATE).due(call + " 1", Scenes.OUT).due(call + " -1", Scenes.OUT);
        }
        s.due("hearWord 0 40", Scenes.WRONG).due("hearWord 1 40", Scenes.OUT).due("hearWord -1 -40", Scenes.OUT);
        s.hear(new int[24]).due("hear 40", Scenes.STATE).due("hear 41", Scenes.WRONG).due("hear -1", Scenes.WRONG);
        Script none = Script.fresh();
        for (String call : new String[] {"nearestTo 0", "distanceTo 0", "contourTo 0", "stepsTo 0", "bestShift 0", "hearWord 0 99"}) {
            none.due(call, Scenes.OUT);
        }
    }
}
