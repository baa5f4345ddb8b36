/** "Terms", section 1: the grammar, told by what each beginning of a language can go on with, and the depth. */
final class TermsOfGrammar {
    private static final String LINES = "word band near prune restore shift";
    private static final String PARTS = "hold glide rest";
    private static final String VALUES = "1 lesson kept distance length - ( min max";
    private static final String SINGLES = "not [ heard pruned " + VALUES;
    private static final String JOINS = "+ - * /";
    private static final String A = "word a is rest for 2 ; ";
    private static final String SHIFT = A + "shift a by ";
    private static final String PRUNE = A + "prune a when ";
    // What is behind them is already at depth 8.
    private static final String VALUES_AT_8 = "1 lesson kept distance length min max";
    private static final String SINGLES_AT_8 = "heard pruned " + VALUES_AT_8;

    private TermsOfGrammar() {
    }

    static void terms1_aLanguageIsARowOfLinesEachWithASemicolon() {
        Script.fresh().teach("").teach("band 3;").teach("band 3; near 3; band 3;").teachMarked("band 3^", 1).teachMarked("band 3;^;", 1);
        Scenes.goesOn("", LINES);
        Scenes.goesOn("band 1 ;", LINES);
        Scenes.goesOn(A, LINES);
        Scenes.goesOn(SHIFT + "1 when 1 < 2 ;", LINES);
    }

    static void terms1_aLineOfAWord() {
        Scenes.goesOn("word", "a");
        Scenes.goesOn("word a", "is");
        Scenes.goesOn("word a is", PARTS);
        Scenes.goesOn("word a is rest for 1", ", ;");
        Scenes.goesOn("word a is rest for 1 ,", PARTS);
        Scenes.goesOn("word a is rest for 1 , rest for 1", ", ;");
    }

    static void terms1_aLineOfBandOrNear() {
        Scenes.goesOn("band", "1");
        Scenes.goesOn("band 1", ";");
        Scenes.goesOn("near", "1");
        Scenes.goesOn("near 1", ";");
    }

    static void terms1_aRuleHasATestOrNone() {
        Scenes.goesOn(A + "prune a", "; when");
        Scenes.goesOn(A + "restore a", "; when");
        Scenes.goesOn(SHIFT + "1", "; when " + JOINS);
        Scenes.goesOn(A + "restore a when", SINGLES);
        Scenes.goesOn(SHIFT + "1 when", SINGLES);
        Scenes.goesOn(SHIFT + "1 when 1 < 2", "; and or " + JOINS);
    }

    static void terms1_aPartThatHolds() {
        Scenes.goesOn("word a is hold", "1");
        Scenes.goesOn("word a is hold 1", "for");
        Scenes.goesOn("word a is hold 1 for", "1");
        Scenes.goesOn("word a is hold 1 for 1", ", ;");
    }

    static void terms1_aPartThatGlides() {
        Scenes.goesOn("word a is glide", "1");
        Scenes.goesOn("word a is glide 1", "to");
        Scenes.goesOn("word a is glide 1 to", "1");
        Scenes.goesOn("word a is glide 1 to 1", "for");
        Scenes.goesOn("word a is glide 1 to 1 for", "1");
        Scenes.goesOn("word a is glide 1 to 1 for 1", ", ;");
    }

    static void terms1_aPartThatRests() {
        Scenes.goesOn("word a is rest", "for");
        Scenes.goesOn("word a is rest for", "1");
        Scenes.goesOn("word a is rest for 1", ", ;");
    }

    static void terms1_theRules() {
        Scenes.goesOn(A + "prune", "a");
        Scenes.goesOn(A + "restore", "a");
        Scenes.goesOn(A + "shift", "a");
        Scenes.goesOn(A + "shift a", "by");
        Scenes.goesOn(A + "shift a by", VALUES);
    }

    static void terms1_aTestIsBothsJoinedByOr() {
        Scenes.goesOn(PRUNE + "heard a", "; and or");
        Scenes.goesOn(PRUNE + "heard a or", SINGLES);
        Scenes.goesOn(PRUNE + "heard a or heard a", "; and or");
        Scenes.goesOn(PRUNE + "heard a and heard a or", SINGLES);
    }

    static void terms1_aBothIsSinglesJoinedByAnd() {
        Scenes.goesOn(PRUNE + "heard a and", SINGLES);
        Scenes.goesOn(PRUNE + "heard a and heard a", "; and or");
        Scenes.goesOn(PRUNE + "heard a or heard a and", SINGLES);
    }

    static void terms1_aSingleOfNotOrOfATestInBrackets() {
        Scenes.goesOn(PRUNE + "not", SINGLES);
        Scenes.goesOn(PRUNE + "not heard a", "; and or");
        Scenes.goesOn(PRUNE + "[", SINGLES);
        Scenes.goesOn(PRUNE + "[ heard a", "] and or");
        Scenes.goesOn(PRUNE + "[ heard a or", SINGLES);
        Scenes.goesOn(PRUNE + "[ heard a ]", "; and or");
        Scenes.goesOn(PRUNE + "[ [ heard a ]", "] and or");
        Scenes.goesOn(PRUNE + "not [ heard a ]", "; and or");
    }

    static void terms1_aSingleOfHeardOrPruned() {
        Scenes.goesOn(PRUNE + "heard", "a");
        Scenes.goesOn(PRUNE + "pruned", "a");
        Scenes.goesOn(PRUNE + "pruned a", "; and or");
        Scenes.goesOn(PRUNE + "[ pruned a", "] and or");
    }

    static void terms1_aSingleOfTwoSumsCompared() {
        Scenes.goesOn(PRUNE + "1", "< > = <= >= " + JOINS);
        Scenes.goesOn(PRUNE + "not 1", "< > = <= >= " + JOINS);
        for (String compare : "< > = <= >=".split(" ")) {
            Scenes.goesOn(PRUNE + "1 " + compare, VALUES);
            Scenes.goesOn(PRUNE + "1 " + compare + " 1", "; and or " + JOINS);
            Scenes.goesOn(PRUNE + "[ 1 " + compare + " 1", "] and or " + JOINS);
        }
    }

    static void terms1_aSumIsProductsJoinedByPlusAndMinus() {
        for (String join : "+ -".split(" ")) {
            Scenes.goesOn(SHIFT + "1 " + join, VALUES);
            Scenes.goesOn(SHIFT + "1 " + join + " 1", "; when " + JOINS);
        }
    }

    static void terms1_aProductIsValuesJoinedByTimesAndOver() {
        for (String join : "* /".split(" ")) {
            Scenes.goesOn(SHIFT + "1 " + join, VALUES);
            Scenes.goesOn(SHIFT + "1 " + join + " 1", "; when " + JOINS);
        }
    }

    static void terms1_aValueOfANumberOrLessonOrKept() {
        for (String value : "1 lesson kept".split(" ")) {
            Scenes.goesOn(SHIFT + value, "; when " + JOINS);
            Scenes.goesOn(PRUNE + value, "< > = <= >= " + JOINS);
        }
    }

    static void terms1_aValueOfDistanceOrLength() {
        for (String asked : "distance length".split(" ")) {
            Scenes.goesOn(SHIFT + asked, "of");
            Scenes.goesOn(SHIFT + asked + " of", "a");
            Scenes.goesOn(SHIFT + asked + " of a", "; when " + JOINS);
        }
    }

    static void terms1_aValueBehindAMinusInFront() {
        Scenes.goesOn(SHIFT + "-", VALUES);
        Scenes.goesOn(SHIFT + "- 1", "; when " + JOINS);
        Scenes.goesOn(SHIFT + "- -", VALUES);
        Scenes.goesOn(SHIFT + "1 - -", VALUES);
    }

    static void terms1_aValueOfASumInParentheses() {
        Scenes.goesOn(SHIFT + "(", VALUES);
        Scenes.goesOn(SHIFT + "( 1", ") " + JOINS);
        Scenes.goesOn(SHIFT + "( 1 )", "; when " + JOINS);
        Scenes.goesOn(PRUNE + "( 1 )", "< > = <= >= " + JOINS);
    }

    static void terms1_aValueOfMinOrMax() {
        for (String choice : "min max".split(" ")) {
            Scenes.goesOn(SHIFT + choice, "(");
            Scenes.goesOn(SHIFT + choice + " (", VALUES);
            Scenes.goesOn(SHIFT + choice + " ( 1", ", " + JOINS);
            Scenes.goesOn(SHIFT + choice + " ( 1 ,", VALUES);
            Scenes.goesOn(SHIFT + choice + " ( 1 , 1", ") " + JOINS);
            Scenes.goesOn(SHIFT + choice + " ( 1 , 1 )", "; when " + JOINS);
        }
    }

    // ---- the depth

    /** Eight of them can be opened, and only what makes nothing deeper is behind them; the ninth is an error. */
    private static void eightDeep(String beginning, String opener, String atSeven, String atEight) {
        Scenes.goesOn(beginning + (opener + " ").repeat(7), atSeven);
        Scenes.goesOn(beginning + (opener + " ").repeat(8), atEight);
    }

    static void terms1_depthIs1GreaterBetweenAParenthesisAndItsEnd() {
        eightDeep(SHIFT, "(", VALUES, VALUES_AT_8);
        Script.fresh().teach(SHIFT + "(".repeat(8) + "1" + ")".repeat(8) + ";");
        Script.fresh().teachMarked(SHIFT + "(".repeat(8) + "^(1" + ")".repeat(9) + ";", 1);
    }

    static void terms1_depthIs1GreaterBetweenABracketAndItsEnd() {
        eightDeep(PRUNE, "[", SINGLES, SINGLES_AT_8);
        Script.fresh().teach(PRUNE + "[".repeat(8) + "1<2" + "]".repeat(8) + ";");
        Script.fresh().teachMarked(PRUNE + "[".repeat(8) + "^[1<2" + "]".repeat(9) + ";", 1);
    }

    static void terms1_depthIs1GreaterBehindAMinusInFront() {
        eightDeep(SHIFT, "-", VALUES, VALUES_AT_8);
        Script.fresh().teach(SHIFT + "-".repeat(8) + "1;").teachMarked(SHIFT + "-".repeat(8) + "^-1;", 1);
    }

    static void terms1_depthIs1GreaterBehindANot() {
        eightDeep(PRUNE, "not", SINGLES, SINGLES_AT_8);
        Script.fresh().teach(PRUNE + "not ".repeat(8) + "heard a;").teachMarked(PRUNE + "not ".repeat(8) + "^not heard a;", 1);
        Script.fresh().teachMarked(PRUNE + "not ".repeat(8) + "^-1 < 2;", 1).teachMarked(PRUNE + "not ".repeat(8) + "1 < ^-2;", 1);
    }

    static void terms1_depthIs1GreaterBetweenTheParenthesisOfMinOrMaxAndItsEnd() {
        for (String choice : "min max".split(" ")) {
            eightDeep(SHIFT, choice + " (", VALUES, VALUES_AT_8);
            // Behind the comma just as ahead of it; the word itself makes nothing deeper, its ( does.
            Scenes.goesOn(SHIFT + (choice + " ( 1 , ").repeat(8), VALUES_AT_8);
            Scenes.goesOn(SHIFT + "( ".repeat(7) + choice, "(");
            Scenes.goesOn(SHIFT + "( ".repeat(8) + choice, "none");
            Script.fresh().teach(SHIFT + (choice + "(").repeat(8) + "1" + ",1)".repeat(8) + ";");
            Script.fresh().teach(SHIFT + (choice + "(1,").repeat(8) + "1" + ")".repeat(8) + ";");
        }
    }

    static void terms1_depthsOfAllKindsAreAdded() {
        Scenes.goesOn(PRUNE + "not [ not [ not [ - ", VALUES);
        Scenes.goesOn(PRUNE + "not [ not [ not [ - ( ", VALUES_AT_8);
        Scenes.goesOn(PRUNE + "[ not [ not [ not - ( ", VALUES_AT_8);
        Scenes.goesOn(SHIFT + "( - min ( - max ( 1 , ( - ( ", VALUES_AT_8);
        Scenes.goesOn(PRUNE + "[ [ [ [ [ [ [ not ", SINGLES_AT_8);
        Scenes.goesOn(PRUNE + "not not not not not not not [ ", SINGLES_AT_8);
    }

    static void terms1_depthIsSmallerAgainBehindWhatIsClosedOrTurned() {
        Script.fresh().teach(SHIFT + "(".repeat(8) + "1" + ")".repeat(8) + "+" + "(".repeat(8) + "1" + ")".repeat(8) + ";");
        Script.fresh().teach(SHIFT + "-".repeat(8) + "1*" + "-".repeat(8) + "1-" + "-".repeat(8) + "1;");
        Script.fresh().teach(SHIFT + "min(1,2)*".repeat(9) + "-".repeat(8) + "1;");
        Script.fresh().teach(PRUNE + "not ".repeat(8) + "heard a and " + "not ".repeat(8) + "heard a or " + "[".repeat(8) + "heard a" + "]".repeat(8) + ";");
        Script.fresh().teach(PRUNE + "[1<2] and ".repeat(9) + "[".repeat(8) + "heard a" + "]".repeat(8) + ";");
        Scenes.goesOn(SHIFT + "( ( ( ( ( ( ( - 1 - ", VALUES);
        Scenes.goesOn(SHIFT + "( ( ( ( ( ( ( ( 1 ) - ", VALUES);
        Scenes.goesOn(SHIFT + "( ( ( ( ( ( ( min ( 1 , 1 ) - ", VALUES);
        Scenes.goesOn(PRUNE + "[ [ [ [ [ [ [ not heard a and ", SINGLES);
        Scenes.goesOn(PRUNE + "[ [ [ [ [ [ [ [ heard a ] and ", SINGLES);
        // What was turned ends ahead of * and and: what is behind these is not turned.
        Scenes.goesOn(SHIFT + "- - - - - - - - 1 * ", VALUES);
        Scenes.goesOn(PRUNE + "not not not not not not not not heard a and ", SINGLES);
    }

    static void terms1_depthIs0AtTheBeginning() {
        // Of each sum and each test, whatever was ahead.
        String sum = "(".repeat(8) + "1" + ")".repeat(8);
        String test = "[".repeat(8) + "heard a" + "]".repeat(8);
        Script.fresh().teach(SHIFT + sum + " when " + test + "; prune a when " + test + " or " + test + "; shift a by " + sum + ";");
        Script.fresh().teach(PRUNE + sum + "<" + sum + " and " + sum + "=" + sum + ";");
        Scenes.goesOn(SHIFT + "- - - - - - - - 1 when ", SINGLES);
        Scenes.goesOn(PRUNE + "not not not not not not not not heard a ; shift a by ", VALUES);
    }

    static void terms1_aMinusBetweenTwoProductsMakesNothingDeeper() {
        Script.fresh().teach(SHIFT + "1" + "-1".repeat(20) + ";").teach(SHIFT + "(".repeat(8) + "1-1-1" + ")".repeat(8) + ";");
    }
}
