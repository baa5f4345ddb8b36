/** For each promise runs of calls with answers reckoned by hand from the document. */
public final class Promises {
    private static final String OUT = "throws.IndexOutOfBoundsException";
    private static final String WRONG = "throws.IllegalArgumentException";
    private static final String STATE = "throws.IllegalStateException";
    private static final int MIN = Integer.MIN_VALUE;
    private static final int MAX = Integer.MAX_VALUE;

    public static void main(String[] args) {
        promise1To5();
        promise6To11();
        promise12To16();
        promise17To21();
        promise22To27();
        promise28To32();
        promise33To38();
        Script.finish();
    }

    private static void promise1To5() {
        newObject();
        feed();
        trim();
        tokens();
        grammar();
        depth();
        tokenLimit();
        errorsTwoToFive();
        teachAnew();
    }

    private static void promise6To11() {
        counts();
        lessonsAndRules();
    }

    private static void promise12To16() {
        beats();
        contours();
    }

    private static void promise17To21() {
        distances();
        contourDistances();
        near();
        nearest();
        needless();
    }

    private static void promise22To27() {
        whatWasHeard();
        steps();
        meant();
    }

    private static void promise28To32() {
        hearing();
        pruning();
    }

    private static void promise33To38() {
        passing();
        sums();
        testsOfRules();
        shifts();
        foresight();
        bestShift();
        meanLength();
        digest();
    }

    private static Script told(String text) {
        return Script.fresh().teach(text);
    }

    private static String repeat(String text, int times) {
        return text.repeat(times);
    }

    // ---- 1 to 5

    private static void newObject() {
        Script.promise("1 A new object");
        Script.fresh().due("words", 0).due("keptWords", 0).due("rules", 0).due("lessons", 0).due("rulesCarriedOut", 0)
                .due("heardBeats", 0).due("errorAt", -1).due("trim 0", 0).due("trim 1", WRONG).due("lengthOf 0", OUT)
                .due("heardPitch 0", OUT).due("meantWord", STATE).due("meanLength", "0.0").due("passLessons 3", 0)
                .due("lessons", 3).due("keptAfter 1", 0).due("pruneNeedless", 0).due("hear 7", 1).due("meantWord", STATE);
    }

    private static void feed() {
        Script.promise("2 feed");
        Script s = Script.fresh();
        for (int k = 1; k <= 100; k++) {
            s.due("feed 0 0 0 0 0", 20L * k);
        }
        s.due("feed 0 0 0 0 0", STATE).due("trim 2000", 2000).due("trim 1981", 1981).due("feed 1 2 3 4 5", STATE)
                .due("trim 1980", 1980).due("feed 1 2 3 4 5", 2000);
        // The highest byte comes first, and bytes above 127 are kept apart from those of the language.
        Script order = Script.fresh();
        order.due("feed " + 0x776F7264 + " " + 0x20612069 + " " + 0x7320686F + " " + 0x6C642037 + " " + 0x20666F72, 20);
        order.due("feed " + 0x20333B20 + " " + 0x20202020 + " 538976288 538976288 538976288", 40);
        order.due("teach", 0).due("words", 1).due("lengthOf 0", 3).due("pitchAt 0 2", 7);
        Script.fresh().due("feed -1 -1 -1 -1 -1", 20).due("teach", 1).due("errorAt", 0);
        Script.fresh().due("feed 538976416 0 0 0 0", 20).due("teach", 1).due("errorAt", 3);
    }

    private static void trim() {
        Script.promise("3 trim");
        Script s = Script.fresh().due("feed 1 2 3 4 5", 20);
        s.due("trim -1", WRONG).due("trim 21", WRONG).due("trim " + MIN, WRONG).due("trim " + MAX, WRONG);
        s.due("trim 20", 20).due("trim 7", 7).due("trim 8", WRONG).due("trim 7", 7).due("feed 1 2 3 4 5", 27).due("trim 0", 0);
        // What is cut off is gone, what is kept stays.
        s.feedText("band 3;xxxxx").due("trim 7", 7).due("feed 538976288 538976288 538976288 538976288 538976315", 27)
                .due("teach", 1).due("errorAt", 26);
        s.feedText("band 3;xxxxx").due("trim 7", 7).due("teach", 0);
    }

    private static void tokens() {
        Script.promise("4, 5 teach: tokens");
        Script s = Script.fresh();
        s.teach("").teach("  \n \n").teach("band 3;near 5;").teach("band\n3\n;");
        s.teachMarked("^\t", 1).teachMarked("band 3^\t;", 1).teachMarked("^\r\nband 3;", 1).teachMarked("^Band 3;", 1);
        s.teachMarked("band ^\u00003;", 1).teachMarked("band ^\u00b3;", 1).teachMarked("band ^{;", 1).teachMarked("band ^`;", 1);
        s.teachMarked("band ^:;", 1).teachMarked("band ^.3;", 1).teachMarked("band 3^!", 1).teachMarked("^_", 1);
        // The longest possible token is read, and a blank is only needed where two would be one.
        s.teachMarked("^band3;", 1).teachMarked("^wordais hold 1 for 1;", 1).teachMarked("word ^is is hold 1 for 1;", 1);
        s.teach("word a is hold 1for 1;").due("lengthOf 0", 1).teach("word a is hold 1for 1,rest for 2;shift a by(1)when(1)<=2;");
        s.teachMarked("word a is hold 1 for 1; prune a when 1 < ^= 2;", 1);
        s.teachMarked("word a is hold 1 for 1; prune a when 1 > ^= 2;", 1);
        s.teachMarked("word a is hold 1 for 1; prune a when 1 = ^< 2;", 1);
        s.teach("word a is hold 1 for 1; prune a when 1<=2 and 1>=2 or 1=2 or 1<2 and 1>2;");
        s.teach("word abcdefghij is hold 1 for 1;").teachMarked("word ^abcdefghijk is hold 1 for 1;", 1);
        s.teach("word a234567890 is hold 1 for 1;").teachMarked("word ^a2345678901 is hold 1 for 1;", 1);
        s.teach("word holds is hold 1 for 1;").teach("word hol is hold 1 for 1; prune hol;").teachMarked("word ^1a is hold 1 for 1;", 1);
        s.teach("band 000020;").teachMarked("band ^0000020;", 1).teachMarked("band ^1234567;", 1).teachMarked("band ^123456;", 5);
        s.teach("word a is hold 1 for 1; shift a by 999999;").teachMarked("word a is hold 1 for 1; shift a by ^1000000;", 1);
        for (String keyword : ("word is hold for glide to rest band near prune restore shift by when lesson kept distance "
                + "length of heard pruned not and or min max").split(" ")) {
            s.teachMarked("word ^" + keyword + " is hold 1 for 1;", 1);
            s.teach("word " + keyword + "s is hold 1 for 1; prune " + keyword + "s;");
        }
    }

    private static void grammar() {
        Script.promise("4, 5 teach: error 1");
        Script s = Script.fresh();
        s.teachMarked("^;", 1).teachMarked("^a", 1).teachMarked("^7", 1).teachMarked("band 3;^;", 1).teachMarked("band 3^", 1);
        s.teachMarked("band 3  \n^", 1).teachMarked("band^", 1).teachMarked("band ^-3;", 1).teachMarked("band 3 ^4;", 1);
        s.teachMarked("near ^a;", 1).teachMarked("word^", 1).teachMarked("word ^3", 1).teachMarked("word a ^hold", 1);
        s.teachMarked("word a is ^;", 1).teachMarked("word a is hold ^for 1;", 1).teachMarked("word a is hold 1 ^1;", 1);
        s.teachMarked("word a is hold 1 for ^;", 1).teachMarked("word a is hold 1 for 1,^;", 1);
        s.teachMarked("word a is hold 1 for 1 ^hold 2 for 1;", 1).teachMarked("word a is glide 1 ^for 2;", 1);
        s.teachMarked("word a is glide 1 to ^for 2;", 1).teachMarked("word a is hold 1 ^to 2 for 2;", 1);
        s.teachMarked("word a is rest ^1 for 2;", 1).teachMarked("word a is rest for 2 ^when 1 < 2;", 1);
        String a = "word a is rest for 2;";
        s.teachMarked(a + "prune ^;", 1).teachMarked(a + "prune a ^by 3;", 1).teachMarked(a + "shift a ^3;", 1);
        s.teachMarked(a + "shift a by ^;", 1).teachMarked(a + "shift a by 3 ^3;", 1).teachMarked(a + "shift a by ^[1];", 1);
        s.teachMarked(a + "shift a by 1 ^< 2;", 1).teachMarked(a + "shift a by (1 ^< 2);", 1).teachMarked(a + "shift a by ^not 1;", 1);
        s.teachMarked(a + "shift a by (1^;", 1).teachMarked(a + "shift a by 1^);", 1).teachMarked(a + "shift a by min ^1;", 1);
        s.teachMarked(a + "shift a by min(1 ^);", 1).teachMarked(a + "shift a by min(1,2^,3);", 1).teachMarked(a + "shift a by max(^);", 1);
        s.teachMarked(a + "shift a by distance ^a;", 1).teachMarked(a + "shift a by length of ^3;", 1).teachMarked(a + "shift a by ^a;", 1);
        s.teachMarked(a + "shift a by 1 * ^* 2;", 1).teachMarked(a + "shift a by ^+ 2;", 1).teachMarked(a + "shift a by ^heard a;", 1);
        s.teachMarked(a + "prune a when ^;", 1).teachMarked(a + "prune a when 1 ^;", 1).teachMarked(a + "prune a when (1 ^< 2);", 1);
        s.teachMarked(a + "prune a when 1 < 2 ^< 3;", 1).teachMarked(a + "prune a when 1 < ^not 2;", 1).teachMarked(a + "prune a when [1 ^];", 1);
        s.teachMarked(a + "prune a when [1 < 2 ^;", 1).teachMarked(a + "prune a when 1 < 2 ^];", 1).teachMarked(a + "prune a when heard ^of a;", 1);
        s.teachMarked(a + "prune a when heard a ^< 2;", 1).teachMarked(a + "prune a when not ^and;", 1).teachMarked(a + "prune a when 1<2 and ^or;", 1);
        s.teachMarked(a + "prune a when 1<2 ^when 1<2;", 1).teachMarked(a + "prune a when [1<2] ^< 2;", 1).teachMarked(a + "prune a when 1 < ^[2];", 1);
        s.teach(a + "shift a by - - 1 * -2 / (3 - min(1, max(lesson, kept))) + distance of a - length of a;");
        s.teach(a + "restore a when not not [heard a or pruned a and 1 < 2] and - 1 < (2) or [[not 1 >= 2]];");
        // An error 1 comes ahead of all others, wherever it stands.
        s.teachMarked("word a is hold 99 for 1; prune b; band^", 1).teachMarked("word a is hold 1 for 30; word a ^;", 1);
    }

    private static void depth() {
        Script.promise("4, 5 teach: depth");
        Script s = Script.fresh();
        String sum = "word a is rest for 2; shift a by ";
        String test = "word a is rest for 2; prune a when ";
        s.teach(sum + repeat("(", 8) + "1" + repeat(")", 8) + ";").teachMarked(sum + repeat("(", 8) + "^(1" + repeat(")", 9) + ";", 1);
        s.teach(sum + repeat("-", 8) + "1;").teachMarked(sum + repeat("-", 8) + "^-1;", 1);
        s.teach(test + repeat("[", 8) + "1<2" + repeat("]", 8) + ";").teachMarked(test + repeat("[", 8) + "^[1<2" + repeat("]", 9) + ";", 1);
        s.teach(test + repeat("not ", 8) + "1<2;").teachMarked(test + repeat("not ", 8) + "^not 1<2;", 1);
        s.teach(sum + repeat("(", 7) + "min(1,2" + repeat(")", 8) + ";");
        s.teachMarked(sum + repeat("(", 8) + "min^(1,2" + repeat(")", 9) + ";", 1);
        s.teachMarked(sum + repeat("(", 8) + "max^(1,2" + repeat(")", 9) + ";", 1);
        s.teachMarked(sum + repeat("(", 8) + "min ^1" + repeat(")", 8) + ";", 1);
        s.teachMarked(sum + repeat("min(1,", 8) + "^(1" + repeat(")", 9) + ";", 1).teach(sum + repeat("max(1,", 8) + "1" + repeat(")", 8) + ";");
        s.teach(sum + repeat("min(", 8) + "1" + repeat(",1)", 8) + ";").teachMarked(sum + repeat("max(", 8) + "min^(1" + repeat(",1)", 9) + ";", 1);
        s.teachMarked(sum + repeat("max(", 8) + "^-1" + repeat(",1)", 8) + ";", 1).teachMarked(sum + repeat("max(", 8) + "1,^-1)" + repeat(",1)", 7) + ";", 1);
        s.teachMarked(test + "not [ not [ not [ (-^(1)) < 1 ] ] ];", 1).teach(test + "not [ not [ not [ (-1) < 1 ] ] ];");
        s.teachMarked(test + repeat("not [", 4) + "^(1) < 1" + repeat("]", 4) + ";", 1);
        s.teachMarked(test + repeat("not [", 4) + "1 < ^- 1" + repeat("]", 4) + ";", 1);
        // Behind a ), a ], what was turned, it is smaller again; a - between two products is none in front.
        s.teach(sum + repeat("(", 8) + "1-2" + repeat(")", 8) + "-(1)- -(2);").teach(sum + repeat("-", 8) + "1-" + repeat("-", 8) + "1*" + repeat("-", 8) + "2;");
        s.teach(test + repeat("not ", 8) + "1<2 and " + repeat("not ", 8) + "1<2 or " + repeat("[", 8) + "1<2" + repeat("]", 8) + ";");
        s.teach(test + repeat("(", 8) + "1" + repeat(")", 8) + "<" + repeat("(", 8) + "1" + repeat(")", 8) + ";");
    }

    private static void tokenLimit() {
        Script.promise("4, 5 teach: tokens are 400 at most");
        Script s = Script.fresh();
        String lines = repeat("band 3;", 133);
        s.teach(lines).teach(lines + " \n").teachMarked(lines + "^;", 1).teachMarked(lines + "band^", 1);
        s.teachMarked(lines + "band ^3;", 1).teachMarked(lines + "band ^!", 1);
        // 11 tokens, 388 more, and the last is the 400th; a sum that is longer has its + there.
        String sum = "word a is rest for 2;shift a by 1" + repeat("+1", 194);
        s.teach(sum + ";").teachMarked(sum + "+^1;", 1).teachMarked(sum + " ^1;", 1).teachMarked(sum + ";^;", 1);
        s.teachMarked(sum + " + ^", 1).teachMarked(sum + "+^#", 1);
    }

    private static void errorsTwoToFive() {
        Script.promise("4, 5 teach: errors 2 to 5");
        Script s = Script.fresh();
        String a = "word a is hold 1 for 1;";
        s.teachMarked(a + "word ^a is hold 1 for 1;", 2).teachMarked(a + "word b is rest for 1; word ^a is hold 1 for 1;", 2);
        s.teachMarked(a + "prune ^b;", 3).teachMarked("prune ^a;" + a, 3).teachMarked(a + "shift a by 1 + distance of ^b;", 3);
        s.teachMarked(a + "restore ^b;", 3).teachMarked(a + "shift ^b by 1;", 3).teachMarked(a + "shift a by length of ^b;", 3);
        s.teachMarked(a + "prune a when heard ^b;", 3).teachMarked(a + "prune a when pruned ^b; word b is rest for 1;", 3);
        s.teachMarked(a + "prune ^aa;", 3).teachMarked("word ab is rest for 1; prune ^a;", 3).teachMarked(a + "prune ^b; word b is rest for 1;", 3);
        StringBuilder eight = new StringBuilder();
        for (int k = 0; k < 8; k++) {
            eight.append("word w" + k + " is hold 1 for 1;");
        }
        s.teach(eight.toString()).due("words", 8).teachMarked(eight + "word ^x is hold 1 for 1;", 4);
        s.teachMarked(eight + "word ^w7 is hold 1 for 1;", 2).teachMarked(eight + "word ^x is hold 99 for 1; prune y;", 4);
        for (String rule : new String[] {"prune a;", "restore a;", "shift a by 1;"}) {
            s.teach(a + repeat(rule, 16)).due("rules", 16).teachMarked(a + repeat("prune a;", 16) + "^" + rule, 4);
        }
        s.teachMarked(a + repeat("prune a;", 16) + "^prune b;", 4).teach(a + repeat("prune a;", 16) + "band 3;").due("rules", 16);
        s.teachMarked("word a is hold ^0 for 1;", 5).teachMarked("word a is hold ^41 for 1;", 5).teach("word a is hold 40 for 1, hold 1 for 1;");
        s.teachMarked("word a is glide ^0 to 1 for 1;", 5).teachMarked("word a is glide ^41 to 1 for 1;", 5);
        s.teachMarked("word a is glide 1 to ^0 for 1;", 5).teachMarked("word a is glide 1 to ^41 for 1;", 5).teach("word a is glide 1 to 40 for 9;");
        s.teachMarked("word a is hold 1 for ^0;", 5).teachMarked("word a is hold 1 for ^10;", 5).teachMarked("word a is rest for ^0;", 5);
        s.teachMarked("word a is rest for ^10;", 5).teachMarked("word a is glide 1 to 2 for ^10;", 5).teachMarked("word a is glide 1 to 2 for ^0;", 5);
        s.teach("word a is hold 1 for 9, rest for 9, glide 1 to 2 for 6;").due("lengthOf 0", 24);
        s.teachMarked("word a is hold 1 for 9, rest for 9, glide 1 to 2 for ^7;", 5).teachMarked("word a is rest for 9, rest for 9, rest for 6, rest for ^1;", 5);
        s.teach("word a is rest for 9, rest for 9; word b is rest for 9;").due("words", 2);
        s.teach("band 0; band 20; near 0; near 99;").teachMarked("band ^21;", 5).teachMarked("near ^100;", 5).teachMarked("band 3; band ^999999;", 5);
        s.teach(a + "shift a by 0 + 41 + 100 + 999999;");
        // The first from left to right, whatever its number.
        s.teachMarked("word a is hold ^99 for 99; prune b;", 5).teachMarked(a + "prune ^b; band 99; word a is rest for 1;", 3);
        s.teachMarked("band ^99; prune b;", 5).teachMarked("word a is hold 1 for ^99; word a is rest for 1;", 5);
    }

    private static void teachAnew() {
        Script.promise("4, 5 teach: all begins anew, or stays");
        Script s = told("word a is hold 5 for 3; word b is hold 9 for 2; prune a; band 0; near 50;");
        s.due("hear 3", 1).due("passLessons 2", 1).due("turnPruned 1", "true");
        String before = s.answer("digest");
        s.teach("word a is hold 5 for 77;", 5, 21).due("digest", before).due("words", 2).due("heardBeats", 1).due("lessons", 2);
        s.due("errorAt", 21).due("trim 1", WRONG).teach("word x", 1, 6).due("digest", before).due("errorAt", 6).due("rulesCarriedOut", 1);
        s.due("passLessons 1", 0).due("distanceTo 0", 6).due("areNear 0 1", "true").teach("word c is hold 40 for 1; band", 1, 29);
        s.due("lengthOf 0", 3).due("isPruned 0", "true");
        s.teach("word a is hold 5 for 3; word b is hold 12 for 3;").due("errorAt", -1).due("words", 2).due("keptWords", 2).due("rules", 0).due("lessons", 0);
        s.due("rulesCarriedOut", 0).due("heardBeats", 0).due("distanceTo 0", STATE).due("trim 1", WRONG).due("areNear 0 1", "false");
        s.due("turnPruned 0", "true").due("teach", 0).due("words", 0).due("keptWords", 0).due("errorAt", -1);
        s.teach("word a is hold 5 for 3;").due("isPruned 0", "false");
        // Nothing is left of the languages before, neither of the last nor of the one ahead of it.
        s.teach("word a is hold 5 for 2; word b is hold 9 for 2; prune a when distance of a < 999; band 0; near 50;").due("hear 5", 1).due("passLessons 3", 1);
        s.teach("word a is hold 5 for 2; word b is hold 7 for 2; prune a when distance of a < 999;").due("hear 5", 1).due("passLessons 2", 1);
        s.teach("word a is hold 5 for 2; word b is hold 7 for 2; prune a when distance of a < 999;").due("lessons", 0).due("rulesCarriedOut", 0).due("rules", 1);
        s.due("areNear 0 1", "false").due("passLessons 1", 0).due("keptAfter 1", 2);
        // Band and nearness are those of the latest line, and 4 and 6 again in the next language.
        s.teach("near 1; word a is hold 5 for 2; near 20; word b is hold 9 for 2; near 30;").due("areNear 0 1", "true");
        s.teach("near 90; word a is hold 5 for 2; word b is hold 9 for 2; near 16;").due("areNear 0 1", "false");
        s.teach("word a is hold 5 for 2; word b is hold 6 for 2;").due("areNear 0 1", "true");
        s.teach("band 0; word a is hold 1 for 1, hold 9 for 2; word b is hold 1 for 2, hold 9 for 1; band 1;").due("distanceBetween 0 1", 0);
        s.teach("band 9; word a is hold 1 for 1, hold 9 for 2; word b is hold 1 for 2, hold 9 for 1; band 0;").due("distanceBetween 0 1", 8);
        s.teach("word a is hold 1 for 1, hold 9 for 2; word b is hold 1 for 2, hold 9 for 1;").due("distanceBetween 0 1", 0);
    }

    // ---- 6 to 11

    private static void counts() {
        Script.promise("6, 7, 8, 11 words, keptWords, rules, heardBeats");
        Script s = told("word a is hold 1 for 1; word b is rest for 1; prune a; word c is rest for 2; shift b by 2; restore a;");
        s.due("words", 3).due("keptWords", 3).due("rules", 3).due("turnPruned 1", "true").due("keptWords", 2).due("words", 3);
        s.due("turnPruned 0", "true").due("turnPruned 2", "true").due("keptWords", 0).due("words", 3).due("turnPruned 1", "false").due("keptWords", 1);
        s.due("heardBeats", 0).due("hear 0", 1).due("hear 40", 2).due("heardBeats", 2).due("hearWord 2 0", 2).due("hearWord 0 0", 1).due("heardBeats", 1);
        s.due("forget", 1).due("heardBeats", 0);
    }

    private static void lessonsAndRules() {
        Script.promise("9, 10 lessons, rulesCarriedOut");
        Script s = told("word a is hold 39 for 1; shift a by 1; prune a when lesson = 2; prune a; restore a when lesson = 3;");
        s.due("lessons", 0).due("passLessons 1", 2).due("lessons", 1).due("rulesCarriedOut", 2).due("passLessons 1", 0).due("rulesCarriedOut", 2);
        s.due("passLessons 2", 1).due("lessons", 4).due("rulesCarriedOut", 3).due("isPruned 0", "false").due("passLessons 20", 1).due("lessons", 24);
        s.due("rulesCarriedOut", 4).due("turnPruned 0", "false").due("rulesCarriedOut", 4).due("keptAfter 20", 0).due("lessons", 24).due("rulesCarriedOut", 4);
        s.due("passLessons 21", WRONG).due("lessons", 24);
    }

    // ---- 12 to 16

    private static void beats() {
        Script.promise("12, 13, 15, 16 lengthOf, pitchAt, isPruned, silentBeats");
        Script s = told("word a is hold 7 for 2, rest for 3, glide 1 to 10 for 4, glide 40 to 1 for 7; word b is glide 5 to 9 for 1;"
                + "word c is glide 9 to 5 for 3, rest for 1; word d is glide 3 to 4 for 9;");
        s.due("lengthOf 0", 16).due("lengthOf 1", 1).due("lengthOf 2", 4).due("lengthOf 3", 9);
        int[] pitches = {7, 7, 0, 0, 0, 1, 3, 5, 7, 40, 35, 29, 24, 18, 13, 7};
        for (int k = 0; k < pitches.length; k++) {
            s.due("pitchAt 0 " + k, pitches[k]);
        }
        s.due("pitchAt 1 0", 5).due("pitchAt 2 0", 9).due("pitchAt 2 1", 8).due("pitchAt 2 2", 7).due("pitchAt 2 3", 0);
        s.due("pitchAt 3 8", 3).due("silentBeats 0", 3).due("silentBeats 1", 0).due("silentBeats 2", 1).due("isPruned 0", "false");
        s.due("turnPruned 2", "true").due("isPruned 2", "true").due("isPruned 1", "false").due("lengthOf 2", 4).due("silentBeats 2", 1);
        for (int word : new int[] {-1, 4, 8, MIN, MAX}) {
            s.due("lengthOf " + word, OUT).due("pitchAt " + word + " 0", OUT).due("isPruned " + word, OUT).due("silentBeats " + word, OUT);
            s.due("contourAt " + word + " 0", OUT);
        }
        s.due("pitchAt 0 16", OUT).due("pitchAt 0 -1", OUT).due("pitchAt 1 1", OUT).due("pitchAt 2 4", OUT).due("pitchAt 0 " + MAX, OUT);
        s.due("pitchAt 0 " + MIN, OUT).due("pitchAt 0 24", OUT);
        s = told("word a is hold 1 for 9, hold 2 for 9, hold 3 for 5, hold 4 for 1;");
        s.due("lengthOf 0", 24).due("pitchAt 0 23", 4).due("pitchAt 0 22", 3).due("pitchAt 0 24", OUT).due("silentBeats 0", 0);
        told("word a is rest for 9, rest for 9, rest for 6;").due("silentBeats 0", 24);
    }

    private static void contours() {
        Script.promise("14 contourAt");
        Script s = told("word a is hold 7 for 2, hold 9 for 1, rest for 2, hold 1 for 1, hold 40 for 1, hold 39 for 1; word b is hold 5 for 1;");
        int[] contours = {0, 1, -1, 0, 1, 1, -1, 0};
        for (int k = 0; k < contours.length; k++) {
            s.due("contourAt 0 " + k, contours[k]);
        }
        s.due("contourAt 1 0", 0).due("contourAt 0 8", OUT).due("contourAt 0 -1", OUT).due("contourAt 1 1", OUT).due("contourAt 2 0", OUT);
        s.due("contourAt 0 " + MAX, OUT).due("contourAt 0 " + MIN, OUT);
        told("word a is hold 2 for 9, hold 2 for 9, hold 2 for 5, rest for 1;").due("contourAt 0 22", -1).due("contourAt 0 23", 0);
    }

    // ---- 17 to 21

    private static void distances() {
        Script.promise("17 distanceBetween");
        Script s = told("word a is hold 5 for 3; word b is hold 9 for 3; word c is rest for 2; word d is hold 5 for 1, rest for 1; word e is hold 40 for 1;"
                + "word f is hold 1 for 9, hold 1 for 9, hold 1 for 6;");
        s.due("distanceBetween 0 1", 12).due("distanceBetween 1 0", 12).due("distanceBetween 0 0", 0).due("distanceBetween 0 2", 30);
        s.due("distanceBetween 2 2", 0).due("distanceBetween 2 3", 10).due("distanceBetween 0 3", 10).due("distanceBetween 2 4", 20);
        s.due("distanceBetween 4 5", 24 * 39).due("distanceBetween 5 4", 24 * 39).due("distanceBetween 4 4", 0);
        for (int word : new int[] {-1, 6, MIN, MAX}) {
            s.due("distanceBetween " + word + " 0", OUT).due("distanceBetween 0 " + word, OUT);
            s.due("contourBetween " + word + " 0", OUT).due("contourBetween 0 " + word, OUT);
            s.due("areNear " + word + " 0", OUT).due("areNear 0 " + word, OUT).due("areNear " + word + " " + word, OUT);
        }
        // The same rise at beat 1 and at beat 6, and at 2 of 4 beats: how far the band lets both be warped.
        String rises = "word a is hold 1 for 1, hold 11 for 6; word b is hold 1 for 6, hold 11 for 1; word c is hold 1 for 2, hold 11 for 2;";
        told(rises + "band 0;").due("distanceBetween 0 1", 50).due("distanceBetween 0 2", 0).due("distanceBetween 1 2", 10);
        told(rises + "band 1;").due("distanceBetween 0 1", 40);
        told(rises + "band 2;").due("distanceBetween 0 1", 30);
        told(rises).due("distanceBetween 0 1", 10).due("distanceBetween 1 2", 0);
        told(rises + "band 5;").due("distanceBetween 0 1", 0);
        told(rises + "band 20;").due("distanceBetween 0 1", 0).due("pitchAt 0 0", 1);
        // Pruned words are as far as kept ones.
        s.due("turnPruned 0", "true").due("distanceBetween 0 1", 12).due("contourBetween 0 1", 0);
    }

    private static void contourDistances() {
        Script.promise("18 contourBetween");
        Script s = told("word up is glide 1 to 9 for 8; word down is glide 9 to 1 for 8; word flat is hold 5 for 8; word steep is glide 10 to 40 for 8;"
                + "word gap is hold 5 for 1, rest for 1, hold 5 for 1; word one is rest for 1; band 0;");
        s.due("contourBetween 0 1", 7).due("contourBetween 0 2", 7).due("contourBetween 1 2", 7).due("contourBetween 0 3", 0).due("contourBetween 0 0", 0);
        s.due("contourBetween 4 5", 2).due("contourBetween 5 4", 2).due("contourBetween 2 5", 0).due("contourBetween 1 5", 7);
        String rises = "word a is hold 1 for 2, hold 2 for 4; word b is hold 1 for 5, hold 2 for 1;";
        told(rises + "band 0;").due("contourBetween 0 1", 2);
        told(rises + "band 3;").due("contourBetween 0 1", 0);
        // A rise and a fall are as different as a rise and none.
        told("word a is hold 1 for 1, hold 3 for 1; word b is hold 3 for 1, hold 1 for 1; word c is hold 2 for 2; band 0;")
                .due("contourBetween 0 1", 1).due("contourBetween 0 2", 1).due("contourBetween 1 2", 1);
    }

    private static void near() {
        Script.promise("19 areNear");
        // 6 * 3 / 4 is 4, cut.
        Script s = told("word a is hold 5 for 3; word b is hold 6 for 3; word c is hold 6 for 2, hold 7 for 1; word d is hold 6 for 1;");
        s.due("areNear 0 1", "true").due("areNear 1 0", "true").due("areNear 0 2", "false").due("areNear 0 0", "false").due("areNear 0 3", "true");
        s.due("areNear 3 0", "true").due("areNear 1 3", "true").due("turnPruned 0", "true").due("areNear 0 1", "true").due("areNear 3 3", "false");
        told("word a is hold 5 for 3; word b is hold 5 for 3; near 0;").due("areNear 0 1", "false");
        told("word a is hold 5 for 3; word b is hold 5 for 3; near 1;").due("areNear 0 1", "false");
        told("word a is hold 5 for 3; word b is hold 5 for 3; near 2;").due("areNear 0 1", "true");
        told("word a is hold 5 for 1; word b is hold 9 for 9; near 16;").due("areNear 0 1", "false").due("areNear 1 0", "false");
        told("word a is hold 5 for 1; word b is hold 9 for 9; near 17;").due("areNear 0 1", "true").due("areNear 1 0", "true");
        told("word a is hold 1 for 1; word b is hold 40 for 1; near 99;").due("areNear 0 1", "false").due("distanceBetween 0 1", 39);
    }

    private static void nearest() {
        Script.promise("20 nearestTo");
        Script s = told("word a is hold 10 for 2; word b is hold 13 for 2; word c is hold 7 for 2; word d is hold 12 for 2; word e is hold 13 for 2;");
        s.due("nearestTo 0", 3).due("nearestTo 1", 4).due("nearestTo 4", 1).due("nearestTo 2", 0).due("nearestTo 3", 1);
        s.due("turnPruned 3", "true").due("nearestTo 0", 3).due("nearestTo 5", OUT).due("nearestTo -1", OUT);
        told("word a is hold 10 for 2; word b is hold 13 for 2; word c is hold 7 for 2;").due("nearestTo 0", 1).due("nearestTo 1", 0).due("nearestTo 2", 0);
        told("word a is hold 10 for 2; word b is hold 30 for 2;").due("nearestTo 0", 1).due("nearestTo 1", 0);
        told("word a is hold 10 for 2;").due("nearestTo 0", STATE).due("nearestTo 1", OUT).due("nearestTo " + MIN, OUT);
        Script.fresh().due("nearestTo 0", OUT);
    }

    private static void needless() {
        Script.promise("21 isNeedless");
        Script s = told("word a is hold 10 for 2; word b is hold 10 for 2; word c is hold 11 for 2; word d is hold 30 for 2;");
        s.due("isNeedless 0", "false").due("isNeedless 1", "true").due("isNeedless 2", "true").due("isNeedless 3", "false");
        s.due("turnPruned 0", "true").due("isNeedless 1", "false").due("isNeedless 2", "true").due("isNeedless 0", "false");
        s.due("turnPruned 1", "true").due("isNeedless 2", "false").due("turnPruned 0", "false").due("isNeedless 1", "false").due("isNeedless 2", "true");
        s.due("isNeedless 4", OUT).due("isNeedless -1", OUT).due("isNeedless " + MAX, OUT).due("isNeedless " + MIN, OUT);
    }

    // ---- 22 to 27

    private static void whatWasHeard() {
        Script.promise("22, 23, 24 heardPitch, distanceTo, contourTo");
        Script s = told("word a is hold 10 for 2; word b is glide 10 to 14 for 4, rest for 1; word c is rest for 2;");
        s.due("heardPitch 0", OUT).due("distanceTo 0", STATE).due("contourTo 0", STATE).due("stepsTo 0", STATE).due("bestShift 0", STATE);
        for (int word : new int[] {-1, 3, MIN, MAX}) {
            s.due("distanceTo " + word, OUT).due("contourTo " + word, OUT).due("stepsTo " + word, OUT).due("bestShift " + word, OUT);
            s.due("lessonsUntilMeant " + word, OUT).due("turnPruned " + word, OUT).due("hearWord " + word + " 99", OUT);
        }
        s.due("hear 12", 1).due("heardPitch 0", 12).due("heardPitch 1", OUT).due("heardPitch -1", OUT).due("heardPitch " + MAX, OUT).due("heardPitch " + MIN, OUT);
        s.due("distanceTo 0", 4).due("distanceTo 1", 14).due("distanceTo 2", 20).due("contourTo 0", 0).due("contourTo 1", 4).due("contourTo 2", 0);
        s.due("hear 0", 2).due("heardPitch 1", 0).due("distanceTo 0", 12).due("distanceTo 1", 4).due("distanceTo 2", 10).due("contourTo 0", 1).due("contourTo 1", 3);
        s.due("turnPruned 1", "true").due("distanceTo 1", 4).due("contourTo 1", 3).due("distanceTo 3", OUT).due("contourTo -1", OUT);
        s.due("forget", 2).due("distanceTo 0", STATE).due("contourTo 0", STATE).due("heardPitch 0", OUT);
        // The band counts here too.
        s = told("word a is hold 1 for 1, hold 11 for 6; band 2;");
        for (int pitch : new int[] {1, 1, 1, 1, 1, 1, 11}) {
            s.answer("hear " + pitch);
        }
        s.due("distanceTo 0", 30).due("contourTo 0", 2);
    }

    private static void steps() {
        Script.promise("25 stepsTo");
        Script s = told("word a is hold 10 for 5; word b is hold 10 for 1, hold 20 for 1; word c is hold 30 for 1, hold 10 for 2, hold 30 for 1; band 9;");
        s.due("hear 10", 1).due("stepsTo 0", 5).due("stepsTo 1", 2).due("hear 10", 2).due("hear 20", 3).due("hear 20", 4);
        s.due("stepsTo 1", 4).due("distanceTo 1", 0).due("stepsTo 0", 5).due("distanceTo 0", 20).due("turnPruned 0", "true").due("stepsTo 0", 5);
        // A dearer way of 3 steps would be there, but the cheapest one takes 4: 1 1 9 against 1 9 9.
        s = told("word a is hold 1 for 1, hold 9 for 2; band 3;");
        s.due("hear 1", 1).due("hear 1", 2).due("hear 9", 3).due("distanceTo 0", 0).due("stepsTo 0", 4);
        s = told("word a is hold 1 for 1, hold 9 for 2; band 0;");
        s.due("hear 1", 1).due("hear 1", 2).due("hear 9", 3).due("distanceTo 0", 8).due("stepsTo 0", 3);
        s = told("word a is rest for 9, rest for 9, rest for 6;").due("hear 0", 1).due("stepsTo 0", 24).due("hear 0", 2).due("stepsTo 0", 24);
        // The way is the one of least cost by pitches: 2 + 2 + 2 + 2 with 4 steps, not 2 + 6 + 2 with 3.
        s = told("word a is hold 1 for 1, hold 9 for 2;").due("hear 3", 1).due("hear 3", 2).due("hear 7", 3).due("distanceTo 0", 8).due("stepsTo 0", 4);
    }

    private static void meant() {
        Script.promise("26, 27 meantWord, surety");
        Script s = told("word a is hold 10 for 2; word b is hold 20 for 2; word c is hold 10 for 2; word d is hold 21 for 2;");
        s.due("meantWord", STATE).due("surety", STATE).due("hear 11", 1).due("meantWord", 0).due("surety", 0).due("turnPruned 0", "true");
        s.due("meantWord", 2).due("surety", 16).due("turnPruned 2", "true").due("meantWord", 1).due("surety", 2).due("turnPruned 1", "true");
        s.due("meantWord", 3).due("surety", -1).due("turnPruned 3", "true").due("meantWord", STATE).due("surety", STATE).due("turnPruned 2", "false");
        s.due("meantWord", 2).due("surety", -1).due("turnPruned 3", "false").due("surety", 18).due("hearWord 1 0", 2).due("meantWord", 3).due("surety", 18);
        s.due("turnPruned 1", "false").due("meantWord", 1).due("surety", 2).due("forget", 2).due("meantWord", STATE);
        Script.fresh().due("hear 5", 1).due("meantWord", STATE).due("surety", STATE);
        // A word farther away than any told distance of 999 is meant all the same.
        s = told("word a is hold 1 for 9, hold 40 for 9; band 0;");
        s.due("hearWord 0 0", 18).due("forget", 18);
        for (int k = 0; k < 18; k++) {
            s.answer("hear " + (k < 9 ? 40 : 1));
        }
        s.due("distanceTo 0", 18 * 39).due("meantWord", 0);
        s = told("word a is hold 1 for 9, hold 1 for 9, hold 1 for 6;");
        for (int k = 0; k < 24; k++) {
            s.answer("hear " + 27);
        }
        s.due("distanceTo 0", 624).due("meantWord", 0);
    }

    // ---- 28 to 32

    private static void hearing() {
        Script.promise("28, 29, 30 hear, hearWord, forget");
        Script s = told("word a is hold 3 for 1, rest for 1, hold 38 for 1; word b is rest for 9, rest for 9, rest for 6;");
        s.due("hear -1", WRONG).due("hear 41", WRONG).due("hear " + MIN, WRONG).due("hear " + MAX, WRONG).due("heardBeats", 0);
        for (int k = 1; k <= 24; k++) {
            s.due("hear " + (k + 16) % 41, k);
        }
        s.due("hear 5", STATE).due("hear 41", WRONG).due("hear -1", WRONG).due("heardBeats", 24).due("heardPitch 0", 17).due("heardPitch 23", 40);
        s.due("hear 40", STATE).due("forget", 24).due("forget", 0).due("hear 0", 1).due("hear 40", 2).due("hear 1", 3).due("heardPitch 0", 0).due("heardPitch 1", 40);
        s.due("hearWord 0 0", 3).due("heardPitch 0", 3).due("heardPitch 1", 0).due("heardPitch 2", 38).due("distanceTo 0", 0).due("heardPitch 3", OUT);
        s.due("hearWord 0 2", 3).due("heardPitch 0", 5).due("heardPitch 1", 0).due("heardPitch 2", 40).due("distanceTo 0", 4);
        s.due("hearWord 0 3", 3).due("heardPitch 2", 40).due("hearWord 0 39", 3).due("heardPitch 0", 40).due("heardPitch 1", 0);
        s.due("hearWord 0 -3", 3).due("heardPitch 0", 1).due("heardPitch 2", 35).due("hearWord 0 -39", 3).due("heardPitch 0", 1).due("heardPitch 2", 1).due("heardPitch 1", 0);
        s.due("hearWord 0 40", WRONG).due("hearWord 0 -40", WRONG).due("hearWord 0 " + MIN, WRONG).due("hearWord 0 " + MAX, WRONG).due("heardPitch 2", 1);
        s.due("hearWord 2 40", OUT).due("hearWord -1 0", OUT).due("heardBeats", 3).due("hear 7", 4).due("heardPitch 3", 7).due("pitchAt 0 0", 3).due("lengthOf 0", 3);
        s.due("hearWord 1 0", 24).due("hear 7", STATE).due("turnPruned 0", "true").due("hearWord 0 0", 3).due("forget", 3).due("heardBeats", 0);
    }

    private static void pruning() {
        Script.promise("31, 32 turnPruned, pruneNeedless");
        Script s = told("word a is hold 10 for 4; word b is hold 11 for 4; word c is hold 12 for 4; word d is hold 10 for 4;");
        // b is near a, c only near b: as b is pruned ahead of c, c stays.
        s.due("areNear 0 1", "true").due("areNear 1 2", "true").due("areNear 0 2", "false").due("isNeedless 2", "true");
        s.due("pruneNeedless", 2).due("isPruned 0", "false").due("isPruned 1", "true").due("isPruned 2", "false").due("isPruned 3", "true").due("keptWords", 2);
        s.due("pruneNeedless", 0).due("turnPruned 1", "false").due("isPruned 1", "false").due("turnPruned 0", "true").due("pruneNeedless", 1).due("isPruned 2", "true");
        s.due("isPruned 1", "false").due("rulesCarriedOut", 0).due("turnPruned 4", OUT).due("turnPruned -1", OUT);
        s.due("turnPruned 0", "false").due("turnPruned 0", "true").due("turnPruned 0", "false");
    }

    // ---- 33 to 38

    private static void passing() {
        Script.promise("33 passLessons");
        Script s = told("word a is hold 10 for 4; word b is hold 11 for 4; prune a; restore a when pruned b; prune b when pruned a;");
        s.due("passLessons 0", WRONG).due("passLessons -1", WRONG).due("passLessons 21", WRONG).due("passLessons " + MIN, WRONG).due("passLessons " + MAX, WRONG);
        // Each rule comes to its turn behind what those ahead of it did.
        s.due("passLessons 1", 2).due("isPruned 0", "true").due("isPruned 1", "true").due("passLessons 1", 1).due("isPruned 0", "false").due("passLessons 1", 2);
        s.due("passLessons 20", 40).due("lessons", 23).due("rulesCarriedOut", 45);
        // A rule that changes nothing is not carried out.
        s = told("word a is rest for 3; word b is hold 40 for 2; shift a by 5; shift b by 3; shift b by 0; restore a; prune b; prune b; shift b by lesson - 1;");
        s.due("passLessons 1", 2).due("pitchAt 1 0", 39).due("passLessons 1", 1).due("pitchAt 1 0", 40).due("passLessons 1", 0).due("isPruned 1", "true");
        // What was heard stays, and distances follow the shifted words.
        s = told("word a is hold 10 for 2; shift a by 5 when distance of a < 15; shift a by 1 when distance of a >= 12;").due("hear 10", 1);
        s.due("passLessons 1", 1).due("pitchAt 0 1", 15).due("distanceTo 0", 10).due("passLessons 1", 2).due("pitchAt 0 0", 21).due("distanceTo 0", 22).due("heardPitch 0", 10);
    }

    /** What the sum makes of the pitch 20, in the first lesson; sums must keep to -19 to 20. */
    private static void sum(String sum, int want) {
        told("word a is hold 20 for 1; word b is hold 7 for 3, rest for 2; shift a by " + sum + ";").due("passLessons 1", want == 0 ? 0 : 1).due("pitchAt 0 0", 20 + want);
    }

    private static void sums() {
        Script.promise("33 passLessons: sums");
        sum("0", 0);
        sum("7", 7);
        sum("2 + 3 * 4", 14);
        sum("(2 + 3) * 4", 20);
        sum("20 - 3 - 4", 13);
        sum("20 - (3 - 4)", 20);
        sum("20 / 3 * 2", 12);
        sum("20 / 3 / 2", 3);
        sum("-20 / 3", -6);
        sum("20 / -3", -6);
        sum("-7 / -2", 3);
        sum("-2 * 3", -6);
        sum("- - 5", 5);
        sum("-5 + 3", -2);
        sum("-(5 + 3)", -8);
        sum("3 - -5", 8);
        sum("5 / 0", 0);
        sum("5 / 0 + 1", 1);
        sum("0 / 0", 0);
        sum("min(3, 5)", 3);
        sum("max(3, 5)", 5);
        sum("min(5, 3) + max(5, 3)", 8);
        sum("min(-5, -6) * -1", 6);
        sum("max(-5, 2 - 4) - min(1, 0)", -2);
        sum("lesson", 0);
        sum("kept", 2);
        sum("length of b", 5);
        sum("length of a * 3", 3);
        sum("distance of b - 990", 9);
        sum("65536 * 65536 + 3", 3);
        sum("46341 * 46341 / 999999 + 2145", -2);
        // 2147483647 + 1 and -2147483648 - 1 wrap around, and so do -(-2147483648) and -2147483648 / -1.
        sum("(32768 * 65535 + 32767 + 1) / 16384 / 16384", -8);
        sum("(-32768 * 65536 - 1) / 16384 / 16384", 7);
        sum("-(32768 * 65536) / 16384 / 16384", -8);
        sum("(32768 * 65536) / -1 / 16384 / 16384", -8);
        sum("(32768 * 65536) / 1 / 16384 / 16384", -8);
        // Nothing wraps around when a pitch is shifted, however great the sum is.
        sum("32768 * 65536", -19);
        sum("32768 * 65536 - 1", 20);
        sum("999999", 20);
        sum("-999999", -19);
    }

    /** Each test is asked in the second lesson: a beat of 10 was heard, and b was pruned in the first one. */
    private static void testsOfRules() {
        Script.promise("33 passLessons: tests");
        Object[][] cases = {
            {"1 < 2", true}, {"2 < 2", false}, {"2 > 1", true}, {"2 > 2", false}, {"2 = 2", true}, {"2 = 3", false}, {"2 <= 2", true}, {"3 <= 2", false},
            {"2 >= 2", true}, {"2 >= 3", false}, {"1 <= 2", true}, {"3 >= 2", true}, {"-1 < 0", true}, {"not 1 < 2", false}, {"not not 1 < 2", true},
            {"not 1 > 2 and 1 < 2", true}, {"not 1 < 2 or 1 < 2", true}, {"not [1 < 2 or 1 < 2]", false}, {"not 1 < 2 and 1 > 2", false},
            {"1 < 2 or 1 < 2 and 1 > 2", true}, {"[1 < 2 or 1 < 2] and 1 > 2", false}, {"1 > 2 and 1 < 2 or 1 < 2", true}, {"1 > 2 and [1 < 2 or 1 < 2]", false},
            {"1 > 2 or 1 > 2", false}, {"1 > 2 or 1 < 2", true}, {"1 < 2 and 1 < 2", true}, {"1 > 2 or 1 > 2 or 1 < 2", true}, {"1 < 2 and 1 < 2 and 1 > 2", false},
            {"heard a", true}, {"heard b", false}, {"heard c", false}, {"pruned b", true}, {"pruned a", false}, {"not pruned a and heard a", true},
            {"kept = 2", true}, {"kept = 3", false}, {"lesson = 1", true}, {"lesson = 0", false}, {"distance of a = 0", true}, {"distance of b = 0", true},
            {"distance of c = 2", true}, {"distance of c = 999", false}, {"length of c = 2", true}, {"length of a = 3", true}, {"1 + 1 = 2 * 1", true},
            {"1 - 2 < 2 - 1", true}, {"32768 * 65536 < 0", true}, {"32768 * 65536 - 1 > 0", true}, {"32768 * 65536 = -(32768 * 65536)", true},
            {"32768 * 65536 < 32768 * 65536 - 1", true}, {"1 / 0 = 0", true}, {"[[1 < 2]]", true}, {"(1) < ((2))", true},
        };
        for (Object[] one : cases) {
            String test = (String) one[0];
            boolean want = (Boolean) one[1];
            Script s = told("word a is hold 10 for 3; word b is hold 10 for 3; word c is hold 9 for 2; prune b; shift c by 1 when lesson = 1 and [" + test + "];");
            s.due("hear 10", 1).due("passLessons 1", 1);
            Script.compare("passLessons 1 with " + test, s.answer("passLessons 1"), want ? "1" : "0");
            s.due("pitchAt 2 0", want ? 10 : 9);
        }
        // With nothing heard no word was meant, and the distance is 999; so it is with all words pruned.
        Script s = told("word a is hold 10 for 3; word b is hold 9 for 1; prune a when heard a; prune b when not heard b and distance of a = 999;");
        s.due("passLessons 1", 1).due("isPruned 0", "false").due("isPruned 1", "true").due("hear 9", 1).due("passLessons 1", 1).due("isPruned 0", "true").due("passLessons 1", 0);
        s = told("word a is hold 10 for 3; prune a when distance of a = 999;").due("hear 9", 1).due("passLessons 1", 0).due("forget", 1).due("passLessons 1", 1);
        s = told("word a is hold 10 for 3; restore a when heard a or distance of a < 999 and pruned a and lesson = 1;");
        s.due("turnPruned 0", "true").due("hear 9", 1).due("passLessons 1", 0).due("passLessons 1", 1).due("isPruned 0", "false");
        // The meant word follows what rules ahead pruned and shifted in the same lesson.
        s = told("word a is hold 10 for 1; word b is hold 12 for 1; prune a; shift b by 1 when heard b; restore a; shift a by 9; shift b by 2 when heard b;");
        s.due("hear 10", 1).due("passLessons 1", 5).due("pitchAt 1 0", 15).due("meantWord", 1).due("surety", 4);
    }

    private static void shifts() {
        Script.promise("33 passLessons: shifts");
        Script s = told("word a is hold 1 for 1, rest for 1, hold 39 for 1; word b is hold 20 for 1; shift a by 2;");
        s.due("passLessons 1", 1).due("pitchAt 0 0", 3).due("pitchAt 0 1", 0).due("pitchAt 0 2", 40).due("pitchAt 1 0", 20);
        s.due("passLessons 20", 19).due("pitchAt 0 0", 40).due("pitchAt 0 2", 40).due("silentBeats 0", 1).due("rulesCarriedOut", 20).due("lengthOf 0", 3);
        s = told("word a is hold 5 for 1, rest for 1, hold 39 for 1; shift a by -3;").due("passLessons 1", 1).due("pitchAt 0 0", 2).due("pitchAt 0 1", 0).due("pitchAt 0 2", 36);
        s.due("passLessons 1", 1).due("pitchAt 0 0", 1).due("turnPruned 0", "true").due("passLessons 1", 1).due("pitchAt 0 2", 30).due("contourAt 0 0", -1).due("contourAt 0 1", 1);
    }

    private static void foresight() {
        Script.promise("34, 35 keptAfter, lessonsUntilMeant");
        Script s = told("word a is hold 10 for 2; word b is hold 20 for 2; word c is hold 30 for 2; prune a when lesson = 1; prune b when lesson = 3; restore a when lesson = 5;");
        String before = s.answer("digest");
        int[] kept = {3, 2, 2, 1, 1, 2, 2};
        for (int k = 1; k <= kept.length; k++) {
            s.due("keptAfter " + k, kept[k - 1]);
        }
        s.due("keptAfter 20", 2).due("digest", before).due("lessons", 0).due("keptAfter 0", WRONG).due("keptAfter 21", WRONG).due("keptAfter -1", WRONG);
        s.due("keptAfter " + MAX, WRONG).due("keptAfter " + MIN, WRONG).due("lessonsUntilMeant 0", -1).due("hear 14", 1).due("lessonsUntilMeant 0", 0);
        before = s.answer("digest");
        s.due("lessonsUntilMeant 1", 2).due("lessonsUntilMeant 2", 4).due("digest", before).due("passLessons 2", 1).due("lessonsUntilMeant 1", 0).due("lessonsUntilMeant 2", 2);
        s.due("lessonsUntilMeant 0", 4).due("keptAfter 1", 2).due("keptAfter 2", 1).due("lessonsUntilMeant 3", OUT).due("lessonsUntilMeant -1", OUT);
        // Exactly 20 lessons count, 21 don't.
        s = told("word a is hold 10 for 1; word b is hold 20 for 1; prune a when lesson = 19;").due("hear 10", 1).due("lessonsUntilMeant 1", 20).due("keptAfter 19", 2).due("keptAfter 20", 1);
        s = told("word a is hold 10 for 1; word b is hold 20 for 1; prune a when lesson = 20;").due("hear 10", 1).due("lessonsUntilMeant 1", -1).due("keptAfter 20", 2);
        s.due("passLessons 1", 0).due("lessonsUntilMeant 1", 20);
        // Shifts in what would be leave pitches and distances as they are.
        s = told("word a is hold 10 for 1; word b is hold 20 for 1; shift b by -3;").due("hear 11", 1).due("lessonsUntilMeant 1", 3).due("pitchAt 1 0", 20).due("distanceTo 1", 9);
        s.due("meantWord", 0).due("surety", 8).due("keptAfter 3", 2).due("pitchAt 1 0", 20).due("rulesCarriedOut", 0).due("forget", 1).due("lessonsUntilMeant 0", -1);
    }

    private static void bestShift() {
        Script.promise("36 bestShift");
        Script s = told("word a is hold 10 for 3; word b is rest for 2; word c is hold 1 for 1; word d is hold 40 for 1; word e is hold 10 for 1, hold 14 for 1; band 0;");
        s.due("hear 7", 1).due("bestShift 0", 3).due("bestShift 1", 0).due("bestShift 2", -6).due("bestShift 3", 33).due("heardPitch 0", 7).due("distanceTo 0", 9);
        // 7 and 10 to 14: anything from 3 to 7 costs 4 in all; 3 is the nearest to 0.
        s.due("bestShift 4", 3).due("hear 0", 2).due("bestShift 0", 3).due("heardPitch 1", 0).due("hearWord 2 0", 1).due("bestShift 3", 39).due("bestShift 2", 0);
        s.due("hearWord 3 0", 1).due("bestShift 2", -39).due("bestShift 3", 0).due("bestShift 5", OUT).due("bestShift -1", OUT);
        // Held at 40: 38 and 40 on 40 and 40 need no more than 2.
        s = told("word a is hold 40 for 2; word b is hold 1 for 2; band 0;").due("hear 38", 1).due("hear 40", 2).due("bestShift 0", 2).due("bestShift 1", -39);
        s = told("word a is hold 20 for 1, rest for 1, hold 40 for 2; band 20;").due("hear 30", 1).due("bestShift 0", 10);
        s = told("word a is hold 1 for 1; word b is hold 39 for 1;").due("hear 20", 1).due("bestShift 0", -19).due("bestShift 1", 19);
        // Both 10 20 and 20 30 are 10 from 10 20 30, all between is farther: of two as near to 0 the greater one.
        s = told("word a is hold 10 for 1, hold 20 for 1, hold 30 for 1;").due("hear 15", 1).due("hear 25", 2).due("distanceTo 0", 15);
        s.due("bestShift 0", 5).due("heardPitch 0", 15).due("heardPitch 1", 25).due("distanceTo 0", 15).due("heardBeats", 2);
        told("word a is hold 10 for 2; word b is hold 12 for 2;").due("hear 11", 1).due("bestShift 0", -1).due("bestShift 1", 1);
    }

    private static void meanLength() {
        Script.promise("37 meanLength");
        told("word a is hold 10 for 3;").due("meanLength", "3.0");
        told("word a is hold 10 for 3; word b is rest for 4;").due("meanLength", "3.5").due("turnPruned 0", "true").due("meanLength", "3.5");
        told("word a is hold 10 for 9, rest for 9, rest for 6;").teach("word a is hold 1 for 1; word b is hold 1 for 2;").due("meanLength", "1.5");
        told("word a is hold 10 for 1; word b is rest for 2; word c is rest for 2;").due("meanLength", String.valueOf(5.0 / 3)).teach("").due("meanLength", "0.0");
    }

    private static long checksum(long... numbers) {
        long d = 1019;
        for (long x : numbers) {
            d = d * 31 + x;
        }
        return d;
    }

    private static void digest() {
        Script.promise("38 digest");
        Script.fresh().due("digest", checksum(0, 0, 0, 0, 0, 0, -1));
        Script s = told("word a is hold 10 for 2, rest for 1; word b is hold 11 for 2; word c is hold 10 for 2, rest for 1; prune b; near 8;");
        // a and c are near, b is 12 from both: 1 + 1 + 10.
        s.due("distanceBetween 0 1", 12).due("digest", checksum(3, 3, 1, 0, 0, 0, -1, 3, 0, 0, 10, 10, 0, 0, 12, 0, 2, 0, 0, 11, 11, 12, 0, 12, 3, 0, 1, 10, 10, 0, 0, 12, 0));
        s.due("hear 11", 1).due("hear 0", 2).due("digest", checksum(3, 3, 1, 0, 0, 2, 0, 3, 0, 0, 10, 10, 0, 0, 12, 0, 2, 0, 0, 11, 11, 12, 0, 12, 3, 0, 1, 10, 10, 0, 0, 12, 0, 11, 0));
        s.due("passLessons 2", 1).due("digest", checksum(3, 2, 1, 2, 1, 2, 0, 3, 0, 0, 10, 10, 0, 0, 12, 0, 2, 1, 0, 11, 11, 12, 0, 12, 3, 0, 1, 10, 10, 0, 0, 12, 0, 11, 0));
        s.due("turnPruned 0", "true").due("turnPruned 2", "true").due("forget", 2);
        s.due("digest", checksum(3, 0, 1, 2, 1, 0, -1, 3, 1, 0, 10, 10, 0, 0, 12, 0, 2, 1, 0, 11, 11, 12, 0, 12, 3, 1, 0, 10, 10, 0, 0, 12, 0));
    }
}
