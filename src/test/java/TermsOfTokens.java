/** "Terms", section 1: the tape and its tokens. */
final class TermsOfTokens {
    private static final int BYTES = 256;

    private TermsOfTokens() {
    }

    private static boolean isBlank(int b) {
        return b == 32 || b == 10;
    }

    private static boolean isLetter(int b) {
        return b >= 97 && b <= 122;
    }

    private static boolean isDigit(int b) {
        return b >= 48 && b <= 57;
    }

    static void terms1_theTapeHas2000BytesAtMost() {
        // 2000 bytes are taken, and the last of them is read as all the others.
        Script.fresh().teach("band 3" + " ".repeat(1993) + ";");
        Script.fresh().teach("band 3;" + " ".repeat(1992) + ";", 1, 1999);
        Script s = Script.fresh().feedText("band 3" + " ".repeat(1993) + ";");
        s.due("feed 0 0 0 0 0", Scenes.STATE).due("trim 2001", Scenes.WRONG).due("trim 2000", 2000).due("teach", 0);
    }

    static void terms1_theTapeIsEmptyAtFirst() {
        Script.fresh().due("trim 1", Scenes.WRONG).due("trim 0", 0).due("teach", 0).due("errorAt", -1);
    }

    static void terms1_theTapeIsEmptyBehindTeach() {
        Script s = Script.fresh().teach("band 3;").due("trim 1", Scenes.WRONG).due("trim 0", 0).due("feed 0 0 0 0 0", 20);
        s.due("teach", 1).due("errorAt", 0).due("trim 1", Scenes.WRONG).due("teach", 0).due("errorAt", -1);
        Script.fresh().teach(" ".repeat(2000)).due("trim 1", Scenes.WRONG).due("feed 0 0 0 0 0", 20);
        Script.fresh().teach("band 99;", 5, 5).due("trim 1", Scenes.WRONG).due("feed 0 0 0 0 0", 20);
    }

    static void terms1_blanksAndLineEndsCanStandBetweenTokensAtTheBeginningAndAtTheEnd() {
        for (String gap : new String[] {" ", "\n", "  ", "\n\n", " \n", "\n "}) {
            String line = "word a is hold 1 for 1 , glide 1 to 2 for 2 ; shift a by min ( 1 , - 2 ) when [ 1 <= 2 ] ;";
            Script.fresh().teach(gap + line.replace(" ", gap) + gap).due("words", 1).due("rules", 1).due("lengthOf 0", 3);
            Script.fresh().teach(gap).due("words", 0);
        }
    }

    static void terms1_noOtherByteCanStandBetweenTokens() {
        for (int b = 0; b < BYTES; b++) {
            String text = "band 3" + (char) b + ";";
            if (isBlank(b)) {
                Script.fresh().teach(text);
            } else if (isDigit(b)) {
                Script.fresh().teach(text, 5, 5);
            } else {
                Script.fresh().teach(text, 1, b == ';' ? 7 : 6);
            }
        }
    }

    static void terms1_atTheBeginningAndAtTheEndNoOtherByteCanStand() {
        for (int b = 0; b < BYTES; b++) {
            if (isBlank(b)) {
                Script.fresh().teach((char) b + "band 3;").teach("band 3;" + (char) b);
            } else {
                Script.fresh().teach((char) b + "band 3;", 1, 0);
                Script.fresh().teach("band 3;" + (char) b, 1, 7);
            }
        }
    }

    static void terms1_blanksHaveToStandBetweenTokensThatWouldBeReadAsOne() {
        Script.fresh().teach("band 3;").teachMarked("^band3;", 1).teachMarked("^near3;", 1);
        Script.fresh().teachMarked("^worda is rest for 2;", 1).teachMarked("word ais ^rest for 2;", 1).teachMarked("word a ^ishold 1 for 2;", 1);
        Script.fresh().teachMarked("word a is hold 1 ^for2;", 1).teachMarked("word a is hold 1 ^2 for 2;", 1).teach("word a is hold 12 for 2;");
    }

    static void terms1_blanksNeedNotStandBetweenOtherTokens() {
        Script s = Scenes.told("word a is hold 1for 2,hold 2for 3;shift a by(1)-1*2when[1<2]and 3>=2or not 1=2;");
        s.due("words", 1).due("rules", 1).due("lengthOf 0", 5);
    }

    static void terms1_theLongestPossibleTokenIsRead() {
        String rule = Scenes.word("a", 1) + "prune a when ";
        Script.fresh().teach(rule + "1<=2;").teach(rule + "1>=2;").teachMarked(rule + "1< ^=2;", 1).teachMarked(rule + "1> ^=2;", 1);
        Script.fresh().teachMarked(rule + "1=^<2;", 1).teachMarked(rule + "1=^>2;", 1).teachMarked(rule + "1<^>2;", 1).teachMarked(rule + "1<=^=2;", 1);
        // A keyword with something behind it is a name, and digits are one number.
        Script.fresh().teachMarked("^bandx 3;", 1).teachMarked("^prune1;", 1).teach("word prunedx is rest for 2; prune prunedx;");
        Script.fresh().teachMarked("band ^21;", 5).teachMarked("band 2 ^1;", 1).teach(rule + "pruned a;").teachMarked(rule + "^prune a;", 1);
    }

    static void terms1_aWordBeginsWithALetter() {
        for (int b = 0; b < BYTES; b++) {
            String text = "word " + (char) b + "x is rest for 2;";
            if (isBlank(b) || isLetter(b)) {
                Script.fresh().teach(text).due("words", 1);
            } else {
                Script.fresh().teach(text, 1, 5);
            }
        }
    }

    static void terms1_aWordGoesOnWithLettersAndDigits() {
        for (int b = 0; b < BYTES; b++) {
            String text = "word x" + (char) b + "y is rest for 2;";
            if (isLetter(b) || isDigit(b)) {
                Script.fresh().teach(text).due("words", 1);
            } else {
                Script.fresh().teach(text, 1, isBlank(b) ? 7 : 6);
            }
        }
    }

    static void terms1_aWordHas10BytesAtMost() {
        Script.fresh().teach("word abcdefghij is rest for 2; prune abcdefghij;").teach("word a123456789 is rest for 2;");
        Script.fresh().teachMarked("word ^abcdefghijk is rest for 2;", 1).teachMarked("word ^a1234567890 is rest for 2;", 1);
        Script.fresh().teachMarked("word ^abcdefghijklmnopqrst is rest for 2;", 1).teachMarked("^abcdefghijk", 1);
        // All ten bytes count.
        Script.fresh().teach("word abcdefghij is rest for 2; word abcdefghik is rest for 2;").due("words", 2);
        Script.fresh().teachMarked("word abcdefghij is rest for 2; word ^abcdefghij is rest for 2;", 2);
        Script.fresh().teachMarked("word abcdefghij is rest for 2; prune ^abcdefghi;", 3);
        Script.fresh().teachMarked("word abcdefghi is rest for 2; prune ^abcdefghij;", 3);
    }

    static void terms1_aNumberHas1To6Digits() {
        String rule = Scenes.word("a", 1) + "shift a by ";
        Script.fresh().teach(rule + "1;").teach(rule + "123456;").teach(rule + "999999;").teachMarked(rule + "^1000000;", 1);
        Script.fresh().teach("band 000009;").teachMarked("band ^0000009;", 1).teachMarked("band ^00000000000000000009;", 1);
        Script.fresh().teachMarked("band ^4294967296;", 1).teachMarked("band ^999999;", 5).teach("band 0;");
    }

    static void terms1_digitsInFrontOf0CountNothing() {
        Script.fresh().teach("word a is hold 000007 for 02;").pitches(0, 7, 7).teachMarked("word a is hold ^00 for 1;", 5);
    }

    static void terms1_theKeywordsAreNoNames() {
        for (String keyword : Scenes.KEYWORDS) {
            Script.fresh().teachMarked("word ^" + keyword + " is rest for 2;", 1);
            Script.fresh().teachMarked(Scenes.word("a", 1) + "prune ^" + keyword + ";", 1);
        }
    }

    static void terms1_allOtherWordsAreNames() {
        for (String keyword : Scenes.KEYWORDS) {
            for (String name : new String[] {keyword + "s", keyword + "0", "x" + keyword, keyword.substring(0, keyword.length() - 1) + "q"}) {
                Script.fresh().teach("word " + name + " is rest for 2; prune " + name + ";").due("words", 1).due("rules", 1);
            }
        }
        for (String name : "a z i o n wor hol kep pruneds lessons minmax isis teach hear".split(" ")) {
            Script.fresh().teach("word " + name + " is rest for 2; prune " + name + ";").due("words", 1).due("rules", 1);
        }
    }

    static void terms1_namesWithDifferentBytesAreDifferent() {
        Script s = Scenes.told("word a is hold 1 for 1; word aa is hold 2 for 1; word a1 is hold 3 for 1; word b is hold 4 for 1; prune a1;");
        s.due("words", 4).due("passLessons 1", 1).due("isPruned 2", "true").due("isPruned 0", "false");
    }
}
