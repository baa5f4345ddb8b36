/** Promises 1 to 11: a new object, the language, and its counts. */
final class EdgesOfLanguage {
    private static final String OUT = Scenes.OUT;
    private static final String WRONG = Scenes.WRONG;
    private static final String STATE = Scenes.STATE;
    private static final int BLANKS = 0x20202020;
    private static final String FIVE_BLANKS = "feed " + (BLANKS + " ").repeat(5);
    private static final String A = Scenes.word("a", 10);
    private static final String B = Scenes.word("b", 20);

    private EdgesOfLanguage() {
    }

    /** A new object with so many bytes of blanks on its tape. */
    private static Script withTape(int bytes) {
        Script s = Script.fresh();
        for (int k = 20; k < bytes + 20; k += 20) {
            s.due(FIVE_BLANKS, k);
        }
        return s.due("trim " + bytes, bytes);
    }

    // ---- 1

    static void promise1_aNewObjectHasNoWords() {
        Script.fresh().due("words", 0).due("keptWords", 0).due("lengthOf 0", OUT).due("pitchAt 0 0", OUT).due("contourAt 0 0", OUT).due("isPruned 0", OUT)
                .due("silentBeats 0", OUT).due("distanceBetween 0 0", OUT).due("contourBetween 0 0", OUT).due("areNear 0 0", OUT).due("nearestTo 0", OUT)
                .due("isNeedless 0", OUT).due("distanceTo 0", OUT).due("contourTo 0", OUT).due("stepsTo 0", OUT).due("hearWord 0 0", OUT)
                .due("turnPruned 0", OUT).due("lessonsUntilMeant 0", OUT).due("bestShift 0", OUT).due("pruneNeedless", 0).due("meanLength", "0.0")
                .due("keptAfter 1", 0).due("keptAfter 20", 0);
    }

    static void promise1_aNewObjectHasNoRules() {
        Script.fresh().due("rules", 0).due("rulesCarriedOut", 0).due("lessons", 0).due("passLessons 20", 0).due("rulesCarriedOut", 0).due("lessons", 20);
    }

    static void promise1_aNewObjectHasHeardNothing() {
        Script.fresh().due("heardBeats", 0).due("heardPitch 0", OUT).due("meantWord", STATE).due("surety", STATE).due("forget", 0).due("hear 40", 1);
    }

    static void promise1_objectsHaveNothingInCommon() {
        Script one = Scenes.told(A).hear(5);
        Script other = Script.fresh().due("words", 0).due("heardBeats", 0).teach(B + A);
        one.due("words", 1).due("heardBeats", 1).pitches(0, 10);
        other.due("words", 2).pitches(0, 20);
    }

    // ---- 2

    static void promise2_appendsTheFourBytesOfEachNumberTheHighestFirst() {
        // A byte that is no blank has the error at its own place, whatever its number is.
        for (int place = 0; place < 20; place++) {
            for (int b : new int[] {0x21, 0x7f, 0x80, 0xff, 0x00}) {
                StringBuilder call = new StringBuilder("feed");
                for (int number = 0; number < 5; number++) {
                    int shift = 24 - 8 * (place % 4);
                    call.append(' ').append(number == place / 4 ? BLANKS & ~(255 << shift) | b << shift : BLANKS);
                }
                Script.fresh().due(call.toString(), 20).due("teach", 1).due("errorAt", place);
            }
        }
    }

    static void promise2_appendsBehindWhatWasFed() {
        // "band", " 7; ", and 12 blanks, then the same with near.
        String rest = " " + BLANKS + " " + BLANKS + " " + BLANKS;
        Script s = Script.fresh().due("feed " + 0x62616E64 + " " + 0x20373B20 + rest, 20).due("feed " + 0x6E656172 + " " + 0x20373B20 + rest, 40);
        s.due("feed " + 0x6E656172 + " " + 0x20373B21 + rest, 60).due("teach", 1).due("errorAt", 47);
    }

    static void promise2_returnsTheNumberOfBytesOfTheTape() {
        Script s = Script.fresh().due("feed 1 2 3 4 5", 20).due("feed 1 2 3 4 5", 40).due("trim 1", 1).due("feed 1 2 3 4 5", 21).due("trim 0", 0);
        s.due("feed 1 2 3 4 5", 20).due("teach", 1).due("feed 1 2 3 4 5", 20);
    }

    static void promise2_throwsIfThereWouldBeMoreThan2000() {
        withTape(1980).due(FIVE_BLANKS, 2000).due(FIVE_BLANKS, STATE).due(FIVE_BLANKS, STATE);
        withTape(1981).due(FIVE_BLANKS, STATE).due("trim 1980", 1980).due(FIVE_BLANKS, 2000);
        withTape(1999).due(FIVE_BLANKS, STATE);
        withTape(2000).due(FIVE_BLANKS, STATE);
    }

    static void promise2_changesNothingWhenItThrows() {
        withTape(1981).refused("feed 0 0 0 0 0", STATE).due("trim 1982", WRONG).due("trim 1981", 1981).due("teach", 0);
        withTape(2000).refused("feed 0 0 0 0 0", STATE).due("trim 2001", WRONG).due("trim 2000", 2000).due("teach", 0).due("errorAt", -1);
        // What is cut off behind a refused call doesn't show what was refused.
        Script s = withTape(1990).due("feed 0 0 0 0 0", STATE).due("trim 1980", 1980).due(FIVE_BLANKS, 2000).due("teach", 0);
        s.due("words", 0);
    }

    static void promise2_changesTheTapeAlone() {
        Scenes.amid().changesNothing("feed -1 -1 -1 -1 -1");
    }

    // ---- 3

    static void promise3_shortensTheTapeToItsFirstBytes() {
        Script s = Script.fresh().feedText("band 3;!").due("trim 7", 7).due("teach", 0);
        s.feedText("band 3;").due("trim 4", 4).due("teach", 1).due("errorAt", 4);
        // What is fed then stands behind them.
        s.feedText("band 3;!!!!!!").due("trim 7", 7).due(FIVE_BLANKS, 27).due("teach", 0);
        s.feedText("!").due("trim 0", 0).due("teach", 0);
    }

    static void promise3_whatIsCutOffIsNotReadAnyMore() {
        // The rest would have gone on with the token that is last now.
        Script s = Script.fresh().feedText(A + "pruned");
        s.due("trim " + (A.length() + 5), A.length() + 5).due("teach", 1).due("errorAt", A.length() + 5);
        s.feedText(A + "prune a when 1<=").due("trim " + (A.length() + 15), A.length() + 15).due("teach", 1).due("errorAt", A.length() + 15);
        s.feedText("band 3; ;").due("trim 8", 8).due("teach", 0).feedText("band 30;").due("trim 6", 6).due("teach", 1).due("errorAt", 6);
        s.feedText("word abcdefghijk").due("trim 15", 15).due("teach", 1).due("errorAt", 15).feedText("band 0000003").due("trim 11", 11).due("teach", 1).due("errorAt", 11);
    }

    static void promise3_returnsN() {
        Script.fresh().feedText("x".repeat(60)).due("trim 60", 60).due("trim 59", 59).due("trim 1", 1).due("trim 0", 0).due("trim 0", 0);
        withTape(2000).due("trim 2000", 2000).due("trim 1999", 1999);
    }

    static void promise3_throwsIfNIsNot0ToTheNumberOfBytes() {
        Script.fresh().due("trim -1", WRONG).due("trim 0", 0).due("trim 1", WRONG);
        Script s = Script.fresh().feedText("x".repeat(40)).due("trim -1", WRONG).due("trim 41", WRONG).due("trim " + Scenes.MIN, WRONG).due("trim " + Scenes.MAX, WRONG);
        s.due("trim 40", 40).due("trim 39", 39).due("trim 40", WRONG).due("trim 39", 39);
        withTape(2000).due("trim 2001", WRONG).due("trim 2000", 2000);
        Script.fresh().feedText("band 3;").due("teach", 0).due("trim 1", WRONG).due("trim 0", 0);
    }

    static void promise3_changesNothingWhenItThrows() {
        Script s = Script.fresh().feedText("band 3;").refused("trim -1", WRONG).refused("trim 8", WRONG).refused("trim 20", WRONG);
        s.due("trim 8", WRONG).due("trim 7", 7).due(FIVE_BLANKS, 27).due("teach", 0).due("errorAt", -1);
        Scenes.refusedAmid("trim 8", WRONG);
        Scenes.refusedAmid("trim " + Scenes.MIN, WRONG);
    }

    static void promise3_changesTheTapeAlone() {
        Scenes.amid().changesNothing("trim 7").changesNothing("trim 0").due("teach", 0);
    }

    // ---- 4

    static void promise4_readsTheTapeAsALanguage() {
        Script s = Scenes.told("word a is hold 7 for 2, rest for 1; word b is glide 1 to 9 for 4; prune b when lesson = 1; band 0; near 40;");
        s.due("words", 2).due("rules", 1).pitches(0, 7, 7, 0).pitches(1, 1, 3, 5, 7).due("distanceBetween 0 1", 22).due("areNear 0 1", "true");
        s.due("passLessons 2", 1).due("isPruned 1", "true");
    }

    static void promise4_returns0OrTheError() {
        Script.fresh().due("teach", 0).teach("").teach(A).teach(A + "!", 1, A.length()).teach(A + A, 2, A.length() + 5).teach("prune a;", 3, 6);
        Script.fresh().teach(Scenes.words(8) + A, 4, Scenes.words(8).length() + 5).teach("band 21;", 5, 5);
    }

    static void promise4_takesThePlaceOfAllThatWasToldBefore() {
        Script s = Scenes.told(A + B + "prune a; band 0; near 50;").teach("word c is rest for 3;");
        s.due("words", 1).due("keptWords", 1).due("rules", 0).pitches(0, 0, 0, 0).due("lengthOf 1", OUT).due("passLessons 1", 0).due("isPruned 0", "false");
        s.teach("").due("words", 0).due("rules", 0).due("lengthOf 0", OUT).due("meanLength", "0.0");
        // Names, too: neither known nor told twice.
        s.teach(A).teach(A).teach("prune a;", 3, 6);
    }

    static void promise4_howMuchWasToldBeforeLeavesNoLessRoom() {
        // Each of them has some 180 numbers in a sum, and a rule behind it.
        String lines = A + "shift a by 0" + " + 0".repeat(180) + "; shift a by lesson + 1 when 1 < 2;";
        Script s = Script.fresh();
        for (int k = 0; k < 5; k++) {
            s.teach(lines).due("passLessons 2", 2).due("pitchAt 0 0", 13);
        }
        for (int k = 0; k < 3; k++) {
            s.teach(lines + "band 21;", 5, lines.length() + 5).teach(lines).due("passLessons 2", 2).due("pitchAt 0 0", 13);
        }
    }

    static void promise4_allBeginsAnew() {
        String lines = A + B + "prune b; shift a by 1;";
        Script s = Scenes.told(lines).hear(10, 11).due("passLessons 3", 4).due("turnPruned 0", "true");
        String fresh = Scenes.told(lines).answer("digest");
        s.teach(lines).due("digest", fresh).due("lessons", 0).due("rulesCarriedOut", 0).due("keptWords", 2).pitches(0, 10);
        // Once more, as what was before the one before must not come back.
        s.hear(10).due("passLessons 2", 3).teach(lines).due("digest", fresh).due("passLessons 1", 2).due("pitchAt 0 0", 11).due("isPruned 1", "true");
    }

    static void promise4_withNothingHeard() {
        Script s = Scenes.told(A).hear(10, 11).teach(A).due("heardBeats", 0).due("heardPitch 0", OUT).due("distanceTo 0", STATE).due("meantWord", STATE);
        s.hear(12).heard(12).due("distanceTo 0", 2);
        // Once more, as what was before the one before must not come back.
        String lines = A + "prune a when distance of a < 999;";
        Scenes.told(lines).hear(10).teach(lines).due("passLessons 1", 0).hear(10).teach(lines).due("passLessons 1", 0).hear(10).due("passLessons 1", 1);
    }

    static void promise4_withAnErrorAllStays() {
        for (String text : new String[] {"word x is rest for 3; band", "word x is rest for 3; word x is rest for 1;", "word x is rest for 3; prune y;",
            Scenes.words(8) + "prune w0; word x is rest for 3;", "word x is rest for 3; prune x; band 0; near 99; word y is hold 41 for 1;"}) {
            Script s = Scenes.amid().due("teach", 0);
            s.teach(A + B + "shift b by 2 when heard a; band 3; near 20;").hear(11, 0).due("passLessons 2", 2).due("turnPruned 1", "true").teach("x", 1, 0);
            s.feedText(text);
            String before = s.answer("digest") + s.answer("keptAfter 3") + s.answer("lessonsUntilMeant 1") + s.answer("areNear 0 1") + s.answer("distanceTo 0");
            Script.compare("teach is an error", String.valueOf(s.answer("teach").equals("0")), "false");
            String behind = s.answer("digest") + s.answer("keptAfter 3") + s.answer("lessonsUntilMeant 1") + s.answer("areNear 0 1") + s.answer("distanceTo 0");
            Script.compare("all behind an error", behind, before);
            s.pitches(0, 10).pitches(1, 24).heard(11, 0).due("words", 2).due("rules", 1).due("lessons", 2).due("rulesCarriedOut", 2).due("keptWords", 1);
            s.due("passLessons 1", 1).due("pitchAt 1 0", 26);
        }
    }

    static void promise4_withAnErrorTheTapeIsEmptyToo() {
        Script s = Script.fresh().teach("band", 1, 4).due("trim 1", WRONG).due("feed 0 0 0 0 0", 20).due("trim 0", 0);
        s.teach("band 21;", 5, 5).due("trim 1", WRONG).teach(A + A, 2, A.length() + 5).due("trim 1", WRONG).due("trim 0", 0);
    }

    // ---- 5

    static void promise5_isMinus1WithoutATeachOrWithoutAnError() {
        Script.fresh().due("errorAt", -1).due("feed 0 0 0 0 0", 20).due("errorAt", -1).due("teach", 1).due("errorAt", 0).due("teach", 0).due("errorAt", -1);
        Script.fresh().teach(A).due("errorAt", -1).teach("x", 1, 0).teach(A).due("errorAt", -1);
    }

    static void promise5_isThePositionOfTheErrorOfTheLatestTeach() {
        Script.fresh().teach("!", 1, 0).teach("band !", 1, 5).teach(A + A, 2, A.length() + 5).teach("prune b;", 3, 6).teach("  band 21;", 5, 7).teach("band", 1, 4);
        Script.fresh().teach(Scenes.words(8) + A, 4, Scenes.words(8).length() + 5);
    }

    static void promise5_staysUntilTheNextTeach() {
        Script s = Scenes.told(A).teach("band !", 1, 5);
        for (String call : new String[] {"feed 1 2 3 4 5", "trim 3", "trim 99", "hear 5", "hear 99", "passLessons 1", "turnPruned 0", "digest", "forget", "lengthOf 9"}) {
            s.answer(call);
            s.due("errorAt", 5);
        }
    }

    // ---- 6 to 11

    static void promise6_wordsAreCounted() {
        Script.fresh().due("words", 0).teach(A).due("words", 1).teach(A + B).due("words", 2).teach(Scenes.words(8)).due("words", 8).teach("").due("words", 0);
        // Pruned ones, too.
        Scenes.told(A + B).due("turnPruned 0", "true").due("words", 2).due("turnPruned 1", "true").due("words", 2);
    }

    static void promise7_keptWordsAreCounted() {
        Script s = Script.fresh().due("keptWords", 0).teach(Scenes.words(8)).due("keptWords", 8);
        for (int word = 0; word < 8; word++) {
            s.due("turnPruned " + word, "true").due("keptWords", 7 - word);
        }
        s.due("turnPruned 7", "false").due("keptWords", 1);
    }

    static void promise8_rulesAreCounted() {
        Script.fresh().due("rules", 0).teach(A).due("rules", 0).teach(A + "prune a;").due("rules", 1).teach(A + "prune a; shift a by 1; restore a;").due("rules", 3);
        Script.fresh().teach(A + "prune a;".repeat(16)).due("rules", 16).due("passLessons 3", 1).due("rules", 16).teach("").due("rules", 0);
    }

    static void promise9_lessonsAreCounted() {
        Script s = Script.fresh().due("lessons", 0).due("passLessons 1", 0).due("lessons", 1).due("passLessons 20", 0).due("lessons", 21);
        s.due("passLessons 21", WRONG).due("passLessons 0", WRONG).due("keptAfter 20", 0).due("lessons", 21).teach(A).due("lessons", 0);
        s.due("passLessons 3", 0).teach("x", 1, 0).due("lessons", 3);
        Script many = Script.fresh();
        for (int k = 1; k <= 500; k++) {
            many.answer("passLessons 20");
        }
        many.due("lessons", 10000);
    }

    static void promise10_rulesCarriedOutAreCountedInAll() {
        Script s = Scenes.told(A + "shift a by 1; prune a when lesson = 1; restore a when lesson = 3;").due("rulesCarriedOut", 0).due("passLessons 1", 1);
        s.due("rulesCarriedOut", 1).due("passLessons 3", 5).due("rulesCarriedOut", 6).due("keptAfter 20", 1).due("lessonsUntilMeant 0", -1).due("rulesCarriedOut", 6);
        s.due("passLessons 20", 20).due("rulesCarriedOut", 26).due("passLessons 20", 6).due("rulesCarriedOut", 32).due("passLessons 20", 0);
        s.due("rulesCarriedOut", 32).teach("x", 1, 0).due("rulesCarriedOut", 32).teach(A).due("rulesCarriedOut", 0);
    }

    static void promise10_whatIsDoneByHandIsNoRuleCarriedOut() {
        Scenes.told(A + A.replace("word a", "word b")).due("turnPruned 0", "true").due("turnPruned 0", "false").due("pruneNeedless", 1).due("rulesCarriedOut", 0);
    }

    static void promise11_heardBeatsAreCounted() {
        Script s = Scenes.told("word a is rest for 9, rest for 9, rest for 6;" + A.replace("word a", "word b")).due("heardBeats", 0);
        for (int k = 1; k <= 24; k++) {
            s.due("hear 0", k).due("heardBeats", k);
        }
        s.due("hear 0", STATE).due("heardBeats", 24).due("hearWord 1 0", 1).due("heardBeats", 1).due("hearWord 0 0", 24).due("heardBeats", 24);
        s.due("forget", 24).due("heardBeats", 0).due("hear 41", WRONG).due("heardBeats", 0);
    }
}
