/** "Terms", section 2: words, what was heard, and how far rows are from each other. */
final class TermsOfRows {
    private static final String ALL_24 = "word x is hold 5 for 9, hold 6 for 9, hold 7 for 6;";

    private TermsOfRows() {
    }

    /** The distance of both rows as words, both ways round, and of each of them from the other as what was heard. */
    private static void apart(int[] a, int[] b, String lines, int want) {
        Script s = Scenes.told(Scenes.word("a", a) + Scenes.word("b", b) + lines);
        s.due("distanceBetween 0 1", want).due("distanceBetween 1 0", want);
        s.due("hearWord 1 0", b.length).due("distanceTo 0", want).due("hearWord 0 0", a.length).due("distanceTo 1", want);
    }

    private static void contoursApart(int[] a, int[] b, String lines, int want) {
        Script s = Scenes.told(Scenes.word("a", a) + Scenes.word("b", b) + lines);
        s.due("contourBetween 0 1", want).due("contourBetween 1 0", want);
        s.due("hearWord 1 0", b.length).due("contourTo 0", want).due("hearWord 0 0", a.length).due("contourTo 1", want);
    }

    private static int[] row(int... pitches) {
        return pitches;
    }

    // ---- words

    static void terms2_aWordHas1To24Beats() {
        Scenes.told("word a is rest for 1;").due("lengthOf 0", 1);
        Scenes.told(ALL_24).due("lengthOf 0", 24).due("pitchAt 0 23", 7).due("pitchAt 0 24", Scenes.OUT);
    }

    static void terms2_aBeatHasAPitchOf1To40OrIsSilentToldAs0() {
        Scenes.told("word a is hold 1 for 1, rest for 1, hold 40 for 1;").pitches(0, 1, 0, 40).due("silentBeats 0", 1);
    }

    static void terms2_partsComeOneBehindTheOther() {
        Scenes.told("word a is hold 3 for 2, rest for 1, glide 1 to 3 for 2, hold 9 for 1, rest for 2;").pitches(0, 3, 3, 0, 1, 2, 9, 0, 0);
    }

    static void terms2_holdIsSoManyBeatsOfThisPitch() {
        Scenes.told("word a is hold 7 for 1; word b is hold 40 for 9;").pitches(0, 7).pitches(1, 40, 40, 40, 40, 40, 40, 40, 40, 40);
    }

    static void terms2_restIsSoManySilentBeats() {
        Scenes.told("word a is rest for 1; word b is rest for 9;").pitches(0, 0).pitches(1, 0, 0, 0, 0, 0, 0, 0, 0, 0);
    }

    static void terms2_aGlideGoesUpBeatByBeat() {
        Scenes.told("word a is glide 1 to 10 for 4; word b is glide 1 to 40 for 9;").pitches(0, 1, 3, 5, 7).pitches(1, 1, 5, 9, 14, 18, 22, 27, 31, 35);
    }

    static void terms2_aGlideGoesDownBeatByBeat() {
        Scenes.told("word a is glide 10 to 1 for 4; word b is glide 40 to 1 for 9;").pitches(0, 10, 8, 6, 4).pitches(1, 40, 36, 32, 27, 23, 19, 14, 10, 6);
    }

    static void terms2_whatAGlideGoesIsCutTowards0() {
        Scenes.told("word a is glide 1 to 2 for 9; word b is glide 2 to 1 for 9;").pitches(0, 1, 1, 1, 1, 1, 1, 1, 1, 1).pitches(1, 2, 2, 2, 2, 2, 2, 2, 2, 2);
        Scenes.told("word a is glide 3 to 1 for 3; word b is glide 1 to 3 for 3;").pitches(0, 3, 3, 2).pitches(1, 1, 1, 2);
    }

    static void terms2_aGlideOf1BeatHasItsFirstPitch() {
        Scenes.told("word a is glide 5 to 9 for 1; word b is glide 9 to 5 for 1; word c is glide 4 to 4 for 2;").pitches(0, 5).pitches(1, 9).pitches(2, 4, 4);
    }

    static void terms2_aWordIsKeptAtFirst() {
        Script s = Scenes.told(Scenes.words(8)).due("keptWords", 8);
        for (int word = 0; word < 8; word++) {
            s.due("isPruned " + word, "false");
        }
    }

    static void terms2_whatWasHeardHas0To24BeatsAndNoneAtFirst() {
        Script s = Scenes.told(ALL_24).due("heardBeats", 0).due("heardPitch 0", Scenes.OUT);
        s.hear(new int[24]).due("heardBeats", 24).due("hear 5", Scenes.STATE).due("heardBeats", 24).due("hearWord 0 0", 24).due("forget", 24);
        s.due("heardBeats", 0);
    }

    // ---- the distance

    static void terms2_stepsBeginWithTheFirstBeatsOfBoth() {
        apart(row(40, 1), row(1), "", 39);
        apart(row(40, 1, 1), row(1, 1), "", 39);
        apart(row(40, 1, 1), row(1, 1, 1), "", 39);
    }

    static void terms2_stepsEndWithTheLastBeatsOfBoth() {
        apart(row(1, 40), row(1), "", 39);
        apart(row(1, 1, 40), row(1, 1), "", 39);
        apart(row(1, 1, 40), row(1, 1, 1), "", 39);
    }

    static void terms2_noStepLeavesABeatOut() {
        apart(row(1, 40, 1), row(1, 1), "", 39);
        apart(row(1, 40, 1), row(1, 1, 1), "", 39);
        apart(row(1, 20, 40, 1), row(1, 1, 1, 1), "", 58);
    }

    static void terms2_aStepGoesOnInOneRowOrInBoth() {
        apart(row(1, 5, 9), row(1, 5, 9), "", 0);
        apart(row(1, 1, 5, 9), row(1, 5, 5, 9), "", 0);
        apart(row(1, 2, 3), row(1, 3), "", 1);
        // No step goes back.
        apart(row(1, 9, 1, 9), row(1, 9), "", 8);
    }

    static void terms2_bothBeatsOfAStepAreNoFartherApartThanTheBand() {
        int[] early = row(1, 11, 11, 11, 11, 11, 11);
        int[] late = row(1, 1, 1, 1, 1, 1, 11);
        apart(early, late, "band 0;", 50);
        apart(early, late, "band 1;", 40);
        apart(early, late, "band 2;", 30);
        apart(early, late, "band 3;", 20);
        apart(early, late, "band 4;", 10);
        apart(early, late, "band 5;", 0);
        apart(early, late, "band 20;", 0);
    }

    static void terms2_theBandIsWiderByAsMuchAsTheRowsAreApart() {
        int[] early = row(1, 11, 11, 11, 11, 11, 11);
        int[] late = row(1, 1, 1, 1, 1, 1, 11, 11, 11);
        apart(early, late, "band 0;", 30);
        apart(early, late, "band 2;", 10);
        apart(early, late, "band 3;", 0);
        int[] short1 = row(1, 11, 11, 11, 11);
        int[] long1 = row(1, 1, 1, 1, 1, 11);
        apart(short1, long1, "band 0;", 30);
        apart(short1, long1, "band 2;", 10);
        apart(short1, long1, "band 3;", 0);
    }

    static void terms2_aBandOf20ReachesFarAndNoFarther() {
        String rises = "word a is hold 1 for 1, hold 11 for 9, hold 11 for 9, hold 11 for 5;"
                + "word b is hold 1 for 9, hold 1 for 9, hold 1 for 5, hold 11 for 1;";
        Scenes.told(rises + "band 20;").due("distanceBetween 0 1", 20);
        Scenes.told(rises + "band 19;").due("distanceBetween 0 1", 30);
    }

    static void terms2_thereAlwaysIsAWay() {
        String lines = "word a is hold 1 for 1; word b is hold 1 for 9, hold 1 for 9, hold 1 for 6; word c is hold 1 for 2; band 0;";
        Scenes.told(lines).due("distanceBetween 0 1", 0).due("distanceBetween 1 2", 0).due("distanceBetween 2 1", 0).due("contourBetween 1 0", 0);
        Scenes.told("word a is hold 1 for 1; word b is hold 40 for 9, hold 40 for 9, hold 40 for 6; band 0;").due("distanceBetween 0 1", 936);
    }

    static void terms2_theCostOfAStepIsHowFarBothPitchesAreApart() {
        apart(row(1), row(1), "", 0);
        apart(row(1), row(2), "", 1);
        apart(row(1), row(40), "", 39);
        apart(row(20), row(31), "", 11);
    }

    static void terms2_theCostOfAStepIs10IfJustOneOfBothIsSilent() {
        apart(row(0), row(1), "", 10);
        apart(row(0), row(10), "", 10);
        apart(row(0), row(11), "", 10);
        apart(row(0), row(40), "", 10);
    }

    static void terms2_theCostOfAStepIs0IfBothAreSilent() {
        apart(row(0), row(0), "", 0);
        apart(row(0, 0, 0), row(0, 0), "", 0);
        apart(row(5, 0, 9), row(5, 0, 0, 9), "", 0);
    }

    static void terms2_allStepsAreAdded() {
        apart(row(5, 5, 5), row(9, 9, 9), "", 12);
        apart(row(5), row(9, 9, 9), "", 12);
        apart(row(0), row(9, 9, 0, 9), "", 30);
    }

    static void terms2_theLeastCostOfAWayCounts() {
        // Of 1 9 9 and 3 3 7: 2 + 2 + 2 + 2 in four steps, not 2 + 6 + 2 in three.
        apart(row(1, 9, 9), row(3, 3, 7), "", 8);
        // Of 1 1 1 9 and 9 1 9 9: the first step costs 8, and all others can be had for nothing.
        apart(row(1, 1, 1, 9), row(9, 1, 9, 9), "", 8);
        apart(row(5, 0, 5), row(5, 16), "", 21);
    }

    // ---- the contour

    static void terms2_theContourIs1IfTheNextBeatHasAGreaterPitch() {
        Scenes.told(Scenes.word("a", 1, 2, 40)).due("contourAt 0 0", 1).due("contourAt 0 1", 1);
    }

    static void terms2_theContourIsMinus1IfTheNextBeatHasASmallerPitch() {
        Scenes.told(Scenes.word("a", 40, 2, 1)).due("contourAt 0 0", -1).due("contourAt 0 1", -1);
    }

    static void terms2_theContourIs0IfTheNextBeatHasAsGreatAPitch() {
        Scenes.told(Scenes.word("a", 40, 40, 1, 1, 2)).due("contourAt 0 0", 0).due("contourAt 0 2", 0);
    }

    static void terms2_theContourIs0IfThereIsNoNextBeat() {
        Scenes.told(Scenes.word("a", 40, 1) + Scenes.word("b", 7) + ALL_24).due("contourAt 0 1", 0).due("contourAt 1 0", 0).due("contourAt 2 23", 0);
        // Not even where a longer word stood before.
        Scenes.told(ALL_24).teach(ALL_24).teach(Scenes.word("a", 1, 2)).due("contourAt 0 1", 0);
    }

    static void terms2_silenceCountsAs0InTheContour() {
        Scenes.told(Scenes.word("a", 1, 0, 0, 1, 0)).due("contourAt 0 0", -1).due("contourAt 0 1", 0).due("contourAt 0 2", 1).due("contourAt 0 3", -1);
    }

    static void terms2_theContourDistanceComparesContours() {
        contoursApart(row(1, 5, 9), row(30, 31, 40), "band 0;", 0);
        contoursApart(row(1, 5, 9), row(1, 5, 5), "band 0;", 1);
        contoursApart(row(7), row(40), "", 0);
        contoursApart(row(5, 0, 5), row(5, 1, 5), "band 0;", 0);
        contoursApart(row(0, 0), row(7, 7), "band 0;", 0);
    }

    static void terms2_aStepWithDifferentContoursCosts1() {
        // Be they a rise and a fall, or one of both and none.
        contoursApart(row(1, 5), row(5, 1), "band 0;", 1);
        contoursApart(row(1, 5), row(5, 5), "band 0;", 1);
        contoursApart(row(5, 1), row(5, 5), "band 0;", 1);
        contoursApart(row(1, 5, 1, 5), row(5, 1, 5, 1), "band 0;", 3);
        contoursApart(row(0, 5), row(5, 0), "band 0;", 1);
    }

    static void terms2_theContourDistanceIsWarpedInTheSameBand() {
        int[] early = row(1, 1, 2, 2, 2, 2);
        int[] late = row(1, 1, 1, 1, 1, 2);
        contoursApart(early, late, "band 0;", 2);
        contoursApart(early, late, "band 2;", 2);
        contoursApart(early, late, "band 3;", 0);
        contoursApart(early, late, "", 0);
    }

    // ---- the word that was meant

    static void terms2_theWordThatWasMeantHasTheSmallestDistance() {
        Script s = Scenes.told(Scenes.word("a", 10) + Scenes.word("b", 20) + Scenes.word("c", 30));
        s.hear(14).due("meantWord", 0).due("forget", 1).hear(16).due("meantWord", 1).due("forget", 1).hear(40).due("meantWord", 2);
    }

    static void terms2_ofSeveralTheOneWithTheSmallestNumberWasMeant() {
        Script s = Scenes.told(Scenes.word("a", 10) + Scenes.word("b", 20) + Scenes.word("c", 20) + Scenes.word("d", 10));
        s.hear(15).due("meantWord", 0).due("turnPruned 0", "true").due("meantWord", 1).due("forget", 1).hear(20).due("meantWord", 1);
    }

    static void terms2_onlyAKeptWordWasMeant() {
        Script s = Scenes.told(Scenes.word("a", 10) + Scenes.word("b", 20)).hear(10).due("meantWord", 0);
        s.due("turnPruned 0", "true").due("meantWord", 1).due("turnPruned 0", "false").due("meantWord", 0);
    }

    static void terms2_noneWasMeantIfNoBeatWasHeard() {
        Scenes.told(Scenes.word("a", 10)).due("meantWord", Scenes.STATE).hear(0).due("meantWord", 0).due("forget", 1).due("meantWord", Scenes.STATE);
    }

    static void terms2_noneWasMeantIfAllWordsArePruned() {
        Script s = Scenes.told(Scenes.word("a", 10) + Scenes.word("b", 20)).hear(10).due("turnPruned 0", "true").due("meantWord", 1);
        s.due("turnPruned 1", "true").due("meantWord", Scenes.STATE);
        Script.fresh().hear(10).due("meantWord", Scenes.STATE);
    }

    // ---- near

    static void terms2_nearIsLessThanTheNearnessTimesTheBeats() {
        String words = "word a is hold 10 for 4; word b is hold 10 for 3, hold 17 for 1;";
        Scenes.told(words).due("distanceBetween 0 1", 7).teach(words + "near 7;").due("areNear 0 1", "false").teach(words + "near 8;").due("areNear 0 1", "true");
        Scenes.told("near 0; word a is hold 10 for 4; word b is hold 10 for 4;").due("areNear 0 1", "false");
        Scenes.told("near 1; word a is hold 10 for 4; word b is hold 10 for 4;").due("areNear 0 1", "true");
        // 99 * 24 / 4 is 594.
        String far = "near 99; word a is hold 1 for 9, hold 1 for 9, hold 1 for 6; word b is hold 25 for 9, hold 25 for 9, hold 26 for 6;";
        Scenes.told(far).due("distanceBetween 0 1", 582).due("areNear 0 1", "true");
        Scenes.told(far.replace("26 for 6", "28 for 6")).due("distanceBetween 0 1", 594).due("areNear 0 1", "false");
        Scenes.told(far.replace("26 for 6", "27 for 5, hold 28 for 1")).due("distanceBetween 0 1", 589).due("areNear 0 1", "true");
    }

    static void terms2_nearTakesTheBeatsOfTheWordWithMoreOfThem() {
        // 36 apart: 17 * 9 / 4 is 38, 16 * 9 / 4 is 36.
        String words = "word a is hold 5 for 1; word b is hold 9 for 9;";
        Scenes.told(words + "near 16;").due("areNear 0 1", "false").due("areNear 1 0", "false");
        Scenes.told(words + "near 17;").due("areNear 0 1", "true").due("areNear 1 0", "true");
    }

    static void terms2_nearCutsAQuarter() {
        // 6 * 3 / 4 is 4, and 5 * 3 / 4 is 3.
        String words = "word a is hold 10 for 3; word b is hold 10 for 2, hold 14 for 1; word c is hold 10 for 2, hold 13 for 1;";
        Scenes.told(words).due("distanceBetween 0 1", 4).due("areNear 0 1", "false").due("areNear 0 2", "true");
        Scenes.told(words + "near 5;").due("areNear 0 2", "false").teach(words + "near 7;").due("areNear 0 1", "true");
        Scenes.told("near 3; word a is rest for 1; word b is rest for 1;").due("areNear 0 1", "false");
        Scenes.told("near 4; word a is rest for 1; word b is rest for 1;").due("areNear 0 1", "true");
    }
}
