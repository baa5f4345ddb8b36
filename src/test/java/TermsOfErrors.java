/** "Terms", section 1: the errors, and what is told by numbers of words and rules, band and nearness. */
final class TermsOfErrors {
    private static final String A = Scenes.word("a", 1);
    // A rise at beat 1 and at beat 6 of 7: their distance is 10 for each beat that the band is less than 5.
    private static final String RISES = Scenes.word("x", 1, 11, 11, 11, 11, 11, 11) + Scenes.word("y", 1, 1, 1, 1, 1, 1, 11);
    // Four beats, 5 and 6 apart: just as many as 6 * 4 / 4.
    private static final String NEXT = "word x is hold 10 for 4; word y is hold 10 for 3, hold 15 for 1; word z is hold 10 for 3, hold 16 for 1;";
    private static final String LINES_OF_399_TOKENS = "band 3;".repeat(133);

    private TermsOfErrors() {
    }

    // ---- error 1

    static void terms1_error1IsAtTheFirstTokenThatDoesNotFit() {
        Script.fresh().teachMarked("band 3; near 4; word ^3 is ; ; near", 1).teachMarked("^a b c", 1).teachMarked("band 3; ^3; !", 1);
    }

    static void terms1_error1OfAByteWithWhichNoTokenBegins() {
        for (String one : new String[] {"!", "\t", "\r", "\0", "A", "_", ".", ":", "{", "\u007f", "\u0080", "\u00ff"}) {
            Script.fresh().teach(A + one, 1, A.length()).teach(A + "prune a" + one + ";", 1, A.length() + 7);
            Script.fresh().teach("near 4" + one, 1, 6);
        }
    }

    static void terms1_error1OfAWordOrNumberThatIsTooLong() {
        Script.fresh().teachMarked("word ^abcdefghijk is rest for 2;", 1).teachMarked(A + "prune ^abcdefghijk;", 1).teachMarked("band ^0000003;", 1);
        Script.fresh().teachMarked(A + "shift a by ^1234567;", 1).teachMarked(A + "shift a by 1 ^1234567;", 1).teachMarked("^bandbandband 3;", 1);
    }

    static void terms1_error1OfTheEndOfTheTapeIsAtItsLength() {
        Script.fresh().teachMarked("band^", 1).teachMarked("band 3^", 1).teachMarked("band 3  \n \n^", 1).teachMarked("word^", 1);
        Script.fresh().teachMarked(A + "prune a when 1 < ^", 1).teachMarked("band 3" + " ".repeat(1994) + "^", 1);
        Script s = Script.fresh().feedText("band 3;").due("trim 6", 6).due("teach", 1).due("errorAt", 6);
        s.feedText("band 3;").due("trim 3", 3).due("teach", 1).due("errorAt", 0);
    }

    static void terms1_error1OfTheTokenThatWouldBeThe401st() {
        Script.fresh().teach(LINES_OF_399_TOKENS).due("words", 0).due("errorAt", -1);
        // 7 and 393 tokens, 8 and 393, and 7 and 394.
        String of393 = "band 3;".repeat(131);
        Script.fresh().teach(of393 + "word a is rest for 2;").due("words", 1).due("lengthOf 0", 2);
        Script.fresh().teachMarked(of393 + "word a is hold 1 for 2^;", 1).due("words", 0);
        Script.fresh().teachMarked(of393 + "word a is rest for 2; ^band 3;", 1);
        Script.fresh().teachMarked(LINES_OF_399_TOKENS + "band ^3;", 1).teachMarked(LINES_OF_399_TOKENS + "near ^!", 1);
        Script.fresh().teachMarked(of393 + "word a is hold 1 for 2^!", 1).teachMarked(of393 + "word a is hold 99 for 2^,", 1);
    }

    static void terms1_theEndOfTheTapeIsNotCountedAsAToken() {
        String of400 = "band 3;".repeat(131) + "word a is rest for 2;";
        Script.fresh().teach(of400 + " \n ").due("words", 1);
        // Behind 400 tokens the end of the tape is an error like any other.
        Script.fresh().teachMarked(LINES_OF_399_TOKENS + "band^", 1).teachMarked(LINES_OF_399_TOKENS + "band  ^", 1);
    }

    static void terms1_thePositionOfAnErrorIsThatOfTheFirstByteOfItsToken() {
        Script.fresh().teachMarked("band ^lesson;", 1).teachMarked("word   ^123456", 1).teachMarked(A + "prune a when 1 < ^<= 2;", 1);
        Script.fresh().teachMarked("word a is hold ^000099 for 1;", 5).teachMarked(A + "prune ^abcdefghij;", 3);
        Script.fresh().teachMarked("word abcdefghij is rest for 2; word ^abcdefghij is rest for 2;", 2);
        Script.fresh().teachMarked(A + "prune a;".repeat(16) + "\n\n ^restore a;", 4);
    }

    static void terms1_theOtherErrorsAreLookedAtOnlyWithoutError1() {
        String eight = Scenes.words(8);
        Script.fresh().teachMarked(A + A + "band^", 1).teachMarked("prune b; ^!", 1).teachMarked(eight + A + "near ^;", 1);
        Script.fresh().teachMarked(A + "prune a;".repeat(17) + "^;", 1).teachMarked("band 99; ^a;", 1).teachMarked("band 99^", 1);
        Script.fresh().teachMarked("word a is hold 99 for 99^", 1).teachMarked("word a is rest for 9, rest for 9, rest for 9 ^for 9;", 1);
        Script.fresh().teachMarked("prune b when " + "[".repeat(8) + "^[", 1);
    }

    static void terms1_theyAreLookedAtFromLeftToRightAndTheFirstIsTold() {
        String two = "word a is rest for 1; ";
        // Each two of them in both orders.
        Script.fresh().teachMarked(A + "word ^a is rest for 1; prune b;", 2).teachMarked(A + "prune ^b; " + two, 3);
        Script.fresh().teachMarked(A + "word ^a is hold 99 for 1;", 2).teachMarked("word a is hold ^99 for 1;" + two, 5);
        Script.fresh().teachMarked(A + "shift ^b by 1; band 21;", 3).teachMarked("band ^21;" + A + "shift b by 1;", 5);
        String seven = A + Scenes.words(7);
        Script.fresh().teachMarked(seven + "word ^x is rest for 1;" + two, 4).teachMarked(seven + "word ^a is rest for 1; word x is rest for 1;", 2);
        Script.fresh().teachMarked(seven + "word ^x is rest for 10;", 4).teachMarked(seven + "near ^100; word x is rest for 1;", 5);
        String sixteen = A + "prune a;".repeat(16);
        Script.fresh().teachMarked(sixteen + "^prune b;", 4).teachMarked(A + "prune ^b;" + "prune a;".repeat(16), 3);
        // In one line too.
        Script.fresh().teachMarked("word a is hold ^0 for 0;", 5).teachMarked("word a is hold 1 for ^0, hold 0 for 1;", 5);
        Script.fresh().teachMarked(A + "prune ^b when heard c;", 3).teachMarked(A + "prune a when heard ^c or heard b;", 3);
        Script.fresh().teachMarked("word a is glide ^0 to 0 for 0;", 5).teachMarked("word a is glide 1 to ^0 for 0;", 5);
    }

    static void terms1_ofErrorsAtOneTokenTheOneWithTheSmallestNumberIsTold() {
        String eight = Scenes.words(8);
        Script.fresh().teachMarked(eight + "word ^w7 is rest for 1;", 2).teachMarked(eight + "word ^w0 is rest for 1;", 2);
        Script.fresh().teachMarked(eight + "word ^w8 is rest for 1;", 4);
    }

    // ---- errors 2 to 5

    static void terms1_error2OfAWordToldAhead() {
        Script.fresh().teachMarked(A + "word ^a is rest for 1;", 2).teachMarked(A + "word b is rest for 1; word ^a is rest for 1;", 2);
        Script.fresh().teachMarked(A + "word b is rest for 1; word ^b is rest for 1;", 2).teach(A + "word b is rest for 1;");
        // What an earlier language told is no word told ahead.
        Script.fresh().teach(A).teach(A).teachMarked(A + "word ^a is rest for 2;", 2).teach(A);
    }

    static void terms1_error3OfANameOfNoWordToldAhead() {
        for (String rule : new String[] {"prune %;", "restore %;", "shift % by 1;", "shift a by distance of %;", "shift a by length of %;",
            "prune a when heard %;", "prune a when pruned %;", "prune a when distance of % < 3;", "prune a when 3 < length of %;"}) {
            Script.fresh().teach(A + rule.replace("%", "a")).due("rules", 1);
            Script.fresh().teachMarked(A + rule.replace("%", "^b"), 3).due("words", 0);
            // One that is told behind it is not told ahead, and so is one of an earlier language.
            Script.fresh().teachMarked(A + rule.replace("%", "^b") + "word b is rest for 1;", 3);
            Script.fresh().teach(A + "word b is rest for 1;").teachMarked(A + rule.replace("%", "^b"), 3).due("words", 2);
        }
        Script.fresh().teachMarked("prune ^a;", 3).teachMarked("prune ^a;" + A, 3);
    }

    static void terms1_error4OfThe9thWord() {
        String eight = Scenes.words(8);
        Script.fresh().teach(eight).due("words", 8).teachMarked(eight + "word ^w8 is rest for 1;", 4).due("words", 8);
        Script.fresh().teachMarked(eight + "prune w7; band 3; word ^x is hold 1 for 1;", 4).due("words", 0);
        Script.fresh().teach(eight + "band 3; near 3; prune w7;").due("words", 8).due("rules", 1);
    }

    static void terms1_error4OfThe17thRule() {
        for (String rule : new String[] {"prune a;", "restore a;", "shift a by 1;", "prune a when 1 < 2;"}) {
            Script.fresh().teach(A + "prune a;".repeat(15) + rule).due("rules", 16);
            Script.fresh().teachMarked(A + "prune a;".repeat(16) + "^" + rule, 4).due("rules", 0);
            Script.fresh().teachMarked(A + rule.repeat(16) + "^" + rule, 4);
        }
        // Only rules are counted.
        Script.fresh().teach(A + "prune a; band 3;".repeat(16) + "word b is rest for 1; near 3;").due("rules", 16);
    }

    static void terms1_error5OfAPitchThatIsNot1To40() {
        for (String part : new String[] {"hold % for 1", "glide % to 7 for 2", "glide 7 to % for 2"}) {
            for (String line : new String[] {"word a is " + part + ";", "word a is rest for 1, " + part + ";"}) {
                Script.fresh().teach(line.replace("%", "1")).teach(line.replace("%", "40"));
                Script.fresh().teachMarked(line.replace("%", "^0"), 5).teachMarked(line.replace("%", "^41"), 5);
                Script.fresh().teachMarked(line.replace("%", "^999999"), 5);
            }
        }
    }

    static void terms1_error5OfANumberOfBeatsThatIsNot1To9() {
        for (String part : new String[] {"hold 7 for %", "glide 1 to 7 for %", "rest for %"}) {
            String line = "word a is " + part + ";";
            Script.fresh().teach(line.replace("%", "1")).due("lengthOf 0", 1).teach(line.replace("%", "9")).due("lengthOf 0", 9);
            Script.fresh().teachMarked(line.replace("%", "^0"), 5).teachMarked(line.replace("%", "^10"), 5).teachMarked(line.replace("%", "^999999"), 5);
        }
    }

    static void terms1_error5OfANumberByWhichAWordWouldHaveMoreThan24Beats() {
        for (String part : new String[] {"hold 7 for %", "glide 1 to 7 for %", "rest for %"}) {
            String line = "word a is hold 1 for 9, rest for 9, " + part;
            Script.fresh().teach(line.replace("%", "6") + ";").due("lengthOf 0", 24).teachMarked(line.replace("%", "^7") + ";", 5);
            Script.fresh().teach(line.replace("%", "5") + ", rest for 1;").due("lengthOf 0", 24);
            Script.fresh().teachMarked(line.replace("%", "6") + ", rest for ^1;", 5).teachMarked(line.replace("%", "5") + ", rest for ^2;", 5);
        }
        // Each word has its own 24.
        Script.fresh().teach("word a is rest for 9, rest for 9; word b is rest for 9, rest for 9;").due("words", 2);
    }

    static void terms1_error5OfABandGreaterThan20() {
        Script.fresh().teach("band 0;").teach("band 20;").teachMarked("band ^21;", 5).teachMarked("band ^999999;", 5);
        Script.fresh().teachMarked("band 20; band ^21;", 5).teachMarked("band ^21; band 20;", 5);
    }

    static void terms1_error5OfANearnessGreaterThan99() {
        Script.fresh().teach("near 0;").teach("near 99;").teachMarked("near ^100;", 5).teachMarked("near ^999999;", 5);
        Script.fresh().teachMarked("near 99; near ^100;", 5).teachMarked("near ^100; near 99;", 5);
    }

    static void terms1_numbersInSumsAreFree() {
        Script.fresh().teach(A + "shift a by 0; shift a by 41; shift a by 999999; prune a when 0 < 999999;").due("rules", 4);
    }

    // ---- what is told

    static void terms1_wordsAreNumberedFrom0InTheirOrder() {
        Script s = Scenes.told("word z is rest for 1; band 3; word b is rest for 2; prune b; word a is rest for 3; shift a by 1;");
        s.due("lengthOf 0", 1).due("lengthOf 1", 2).due("lengthOf 2", 3).due("lengthOf 3", Scenes.OUT).due("passLessons 1", 1).due("isPruned 1", "true");
    }

    static void terms1_theBandIsThatOfTheLatestLineOfBand() {
        Scenes.told("band 0; " + RISES + "band 3;").due("distanceBetween 0 1", 20);
        Scenes.told("band 3; " + RISES + "band 0;").due("distanceBetween 0 1", 50);
        Scenes.told("band 3; " + RISES).due("distanceBetween 0 1", 20);
        Scenes.told("band 1; band 2; " + RISES).due("distanceBetween 0 1", 30);
    }

    static void terms1_theBandIs4WithoutALineOfBand() {
        Scenes.told(RISES).due("distanceBetween 0 1", 10);
        // Whatever languages before told, and those with an error.
        String other = "band 0; near 3; " + RISES;
        Scenes.told(other).teach(RISES).due("distanceBetween 0 1", 10).teach(other).teach(other).teach(RISES).due("distanceBetween 0 1", 10);
        Scenes.told(RISES).teach("band 20; near 100;", 5, 14).due("distanceBetween 0 1", 10).teach(RISES).due("distanceBetween 0 1", 10);
    }

    static void terms1_theNearnessIsThatOfTheLatestLineOfNear() {
        Scenes.told("near 99; " + NEXT + "near 5;").due("areNear 0 1", "false");
        Scenes.told("near 5; " + NEXT + "near 7;").due("areNear 0 1", "true").due("areNear 0 2", "true");
        Scenes.told("near 7; " + NEXT).due("areNear 0 2", "true");
        Scenes.told("near 7; near 0; " + NEXT).due("areNear 0 1", "false");
    }

    static void terms1_theNearnessIs6WithoutALineOfNear() {
        Scenes.told(NEXT).due("areNear 0 1", "true").due("areNear 0 2", "false");
        // Whatever languages before told, and those with an error.
        for (String other : new String[] {"near 99; band 0; " + NEXT, "near 0; " + NEXT}) {
            Script s = Scenes.told(other).teach(NEXT).due("areNear 0 1", "true").due("areNear 0 2", "false");
            s.teach(other).teach(other).teach(NEXT).due("areNear 0 1", "true").due("areNear 0 2", "false");
        }
        Scenes.told(NEXT).teach("near 99; band 21;", 5, 14).due("areNear 0 2", "false").teach(NEXT).due("areNear 0 2", "false");
    }
}
