/** "Terms", the paragraphs ahead of section 1. */
final class TermsOfNumbers {
    private static final String GREATEST = Scenes.GREATEST;
    private static final String LEAST = Scenes.LEAST;

    private TermsOfNumbers() {
    }

    static void terms_sumsWrapAroundIn32Bits() {
        Scenes.holds(GREATEST + " - 1 + 1 > 0", true);
        Scenes.holds(GREATEST + " + 1 < 0", true);
        Scenes.holds(GREATEST + " + 1 = " + LEAST, true);
        Scenes.holds(GREATEST + " + " + GREATEST + " = -2", true);
        Scenes.holds(LEAST + " + " + LEAST + " = 0", true);
        Scenes.holds(LEAST + " + -1 = " + GREATEST, true);
    }

    static void terms_differencesWrapAroundIn32Bits() {
        Scenes.holds(LEAST + " + 1 - 1 < 0", true);
        Scenes.holds(LEAST + " - 1 > 0", true);
        Scenes.holds(LEAST + " - 1 = " + GREATEST, true);
        Scenes.holds("-1 - " + GREATEST + " = " + LEAST, true);
        Scenes.holds("-2 - " + GREATEST + " = " + GREATEST, true);
        Scenes.holds(LEAST + " - " + GREATEST + " = 1", true);
        Scenes.holds("0 - " + LEAST + " = " + LEAST, true);
    }

    static void terms_productsWrapAroundIn32Bits() {
        Scenes.holds("46340 * 46340 > 0", true);
        Scenes.holds("46340 * 46340 = " + GREATEST + " - 88047", true);
        Scenes.holds("46341 * 46341 < 0", true);
        Scenes.holds("46341 * 46341 = -2147 * 999999 - 481162", true);
        Scenes.holds("999999 * 999999 = -729 * 999999 - 380696", true);
        Scenes.holds("65536 * 65536 = 0", true);
        Scenes.holds(GREATEST + " * " + GREATEST + " = 1", true);
        Scenes.holds(LEAST + " * -1 = " + LEAST, true);
    }

    static void terms_aMinusInFrontWrapsAroundIn32Bits() {
        Scenes.holds("-" + GREATEST + " = " + LEAST + " + 1", true);
        Scenes.holds("-" + LEAST + " = " + LEAST, true);
        Scenes.holds("-" + LEAST + " < 0", true);
    }

    static void terms_quotientsAreCutTowards0() {
        Scenes.holds("7 / 2 = 3", true);
        Scenes.holds("-7 / 2 = -3", true);
        Scenes.holds("7 / -2 = -3", true);
        Scenes.holds("-7 / -2 = 3", true);
        Scenes.holds("1 / 2 = 0", true);
        Scenes.holds("-1 / 2 = 0", true);
        Scenes.holds("8 / 2 = 4", true);
        Scenes.holds("-8 / 2 = -4", true);
        Scenes.holds(LEAST + " / 2 = -1073 * 999999 - 742897", true);
    }

    static void terms_aQuotientWith0OnTheRightSideIs0() {
        Scenes.holds("5 / 0 = 0", true);
        Scenes.holds("-5 / 0 = 0", true);
        Scenes.holds("0 / 0 = 0", true);
        Scenes.holds(GREATEST + " / (3 - 3) = 0", true);
        Scenes.holds("5 / 0 + 2 = 2", true);
        Scenes.holds("5 / 1 = 5", true);
        Scenes.holds("5 / -1 = -5", true);
        Script s = Scenes.told(Scenes.word("a", 9) + "shift a by 7 / 0; shift a by 7 / lesson;");
        s.due("passLessons 1", 0).due("pitchAt 0 0", 9).due("passLessons 1", 1).due("pitchAt 0 0", 16);
    }

    static void terms_theLeastNumberDividedByMinus1StaysTheSame() {
        Scenes.holds(LEAST + " / -1 = " + LEAST, true);
        Scenes.holds(LEAST + " / -1 < 0", true);
        Scenes.holds(LEAST + " / 1 = " + LEAST, true);
        Scenes.holds("(" + LEAST + " + 1) / -1 = " + GREATEST, true);
    }

    static void terms_comparisonsDontWrapAround() {
        Scenes.holds(LEAST + " < " + GREATEST, true);
        Scenes.holds(GREATEST + " < " + LEAST, false);
        Scenes.holds(GREATEST + " > " + LEAST, true);
        Scenes.holds(LEAST + " <= " + GREATEST, true);
        Scenes.holds(GREATEST + " >= " + LEAST, true);
        Scenes.holds(LEAST + " = " + GREATEST, false);
    }

    static void terms_positionsAreCountedFrom0InBytes() {
        Script.fresh().teachMarked("^!", 1).teachMarked(" ^!", 1).teachMarked("\n\n^!", 1).teachMarked("band 3;^!", 1);
        Script.fresh().teachMarked(" ".repeat(1999) + "^!", 1);
        Script.fresh().teachMarked(" ".repeat(1000) + "\n".repeat(993) + "band ^x", 1);
    }
}
