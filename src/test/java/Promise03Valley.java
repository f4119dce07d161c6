/** The text of THE VALLEY: bounds, faults and which of them comes first; what valley() leaves and what it clears. */
public final class Promise03Valley extends Boundary {
    private static final String V = "v0 0 0;";
    private static final String VH = "v0 0 0;h0 0 0;";

    public static void main(String[] args) {
        run(Promise03Valley.class);
    }

    private static WeatherHand told(String text) {
        reads(text, 0);
        return of(text);
    }

    // ---- 'v' W D L

    static void promise03_windTurnsBy0To7() {
        due("W of 0", told("v0 1 1;").told(1), 0);
        due("W of 7", told("v7 1 1;").told(1), 7);
        faults("v8 1 1;", 2, 1);
    }

    static void promise03_dampAtFirstIs0To9() {
        due("D of 0", told("v1 0 1;").told(2), 0);
        due("D of 9", told("v1 9 1;").told(2), 9);
        faults("v1 10 1;", 2, 3);
    }

    static void promise03_lightLasts0To12() {
        due("L of 0", told("v1 1 0;").told(3), 0);
        due("L of 12", told("v1 1 12;").told(3), 12);
        faults("v1 1 13;", 2, 5);
    }

    static void promise03_anotherWordFirstThanV() {
        faults("d0;" + V, 1, 0);
        faults("h0 0 0;" + V, 1, 0);
        faults("p0 0 1;" + V, 1, 0);
        faults("  d0;", 1, 2);
    }

    static void promise03_vAgain() {
        faults(V + "v0 0 0;", 3, 7);
        faults(V + "v", 3, 7);
        faults(V + "h0 0 0; v", 3, 15);
    }

    static void promise03_aNumberTooFew() {
        faults("v0 0;", 1, 4);
        faults("v0;", 1, 2);
        faults("v;", 1, 1);
    }

    static void promise03_aNumberTooMany() {
        faults("v0 0 0 0;", 1, 7);
        faults(V + "h0 0 0 0;", 1, 14);
        faults(VH + "p0 0 1 1;", 1, 21);
    }

    // ---- 'd' R {',' R}

    static void promise03_oneRain() {
        reads(V + "d9;", 0);
        due("damp with one rain", of("v0 0 12;d9;").weather(95, 1), 9);
    }

    static void promise03_noRainInTheClause() {
        faults(V + "d;", 1, 8);
        faults(V + "d,", 1, 8);
        faults(V + "d1,;", 1, 10);
        faults(V + "d1,,2;", 1, 10);
    }

    static void promise03_eightRains() {
        reads(V + "d1,2,3,4,5,6,7,8;", 0);
        due("damp with eight rains", of("v0 0 12;d1,2,3,4,5,6,7,9;").weather(84, 1), 9);
    }

    static void promise03_aNinthRainFaultsAtItsComma() {
        faults(V + "d1,2,3,4,5,6,7,8,9;", 1, 23);
        faults(V + "d1,2,3,4,5,6,7,8 ,9;", 1, 24);
        faults(V + "d1,2,3,4,5,6,7,8,99;", 1, 23);
        faults(V + "d1,2,3,4,5,6,7,8,", 1, 23);
    }

    static void promise03_rainIs0To9() {
        reads(V + "d0,9;", 0);
        faults(V + "d10;", 2, 8);
        faults(V + "d0,10;", 2, 10);
    }

    static void promise03_rainsSideBySideNeedAComma() {
        faults(V + "d1 2;", 1, 10);
    }

    static void promise03_dAgain() {
        faults(V + "d0;d0;", 3, 10);
        faults(V + "d0;h0 0 0; d", 3, 18);
    }

    static void promise03_dUntoldIsOne0() {
        for (int t = 0; t < 96; t += 12) {
            due("damp at " + t, of("v0 4 12;").weather(t, 1), 4);
        }
    }

    static void promise03_dMayComeLast() {
        WeatherHand x = of("v0 0 12;h0 0 0;p0 0 1;d6;");
        due("the look by a rain told behind its paper", x.letter(0, 0, 0), 30);
    }

    // ---- 'h' A B C

    static void promise03_handsLean0To8() {
        due("A of 0", told(V + "h0 1 1;").hand(0, 0), 0);
        due("A of 8", told(V + "h8 1 1;").hand(0, 0), 8);
        faults(V + "h9 1 1;", 2, 8);
    }

    static void promise03_handsFill0To8() {
        due("B of 0", told(V + "h1 0 1;").hand(0, 1), 0);
        due("B of 8", told(V + "h1 8 1;").hand(0, 1), 8);
        faults(V + "h1 9 1;", 2, 10);
    }

    static void promise03_handsPress0To8() {
        due("C of 0", told(V + "h1 1 0;").hand(0, 2), 0);
        due("C of 8", told(V + "h1 1 8;").hand(0, 2), 8);
        faults(V + "h1 1 9;", 2, 12);
    }

    static void promise03_noHands() {
        due("told(4)", told(V).told(4), 0);
    }

    static void promise03_fourHands() {
        due("told(4)", told(V + "h0 0 0;h0 0 0;h0 0 0;h1 2 3;").told(4), 4);
    }

    static void promise03_aFifthHandFaultsAtIt() {
        faults(V + "h0 0 0;h0 0 0;h0 0 0;h0 0 0;h0 0 0;", 3, 35);
        faults(V + "h0 0 0;h0 0 0;h0 0 0;h0 0 0; h", 3, 36);
    }

    // ---- 'p' H T N

    static void promise03_theLastHandToldAhead() {
        reads(V + "h0 0 0;h0 0 0;p1 0 1;", 1);
    }

    static void promise03_aHandThatWasNotToldYet() {
        faults(V + "p0 0 1;", 2, 8);
        faults(VH + "p1 0 1;", 2, 15);
        faults(VH + "p1 0 1;h0 0 0;", 2, 15);
        faults(VH + "p 001 0 1;", 2, 16);
        faults(V + "h0 0 0;h0 0 0;h0 0 0;h0 0 0;p4 0 1;", 2, 36);
    }

    static void promise03_papersBeginAt0To95() {
        reads(VH + "p0 0 1;", 1);
        reads(VH + "p0 95 1;", 1);
        due("the hour of a paper from 95", of(VH + "p0 95 1;").letter(0, 0, 1), 95);
        faults(VH + "p0 96 1;", 2, 17);
    }

    static void promise03_papersHave1To12Letters() {
        due("letters of N 1", of(VH + "p0 0 1;").told(8), 1);
        due("letters of N 12", of(VH + "p0 0 12;").told(8), 12);
        faults(VH + "p0 0 0;", 2, 19);
        faults(VH + "p0 0 13;", 2, 19);
    }

    static void promise03_aPaperEndsAt95() {
        due("12 from 84", of(VH + "p0 84 12;").told(8), 12);
        due("12 from 85", of(VH + "p0 85 12;").told(8), 11);
        due("12 from 95", of(VH + "p0 95 12;").told(8), 1);
        WeatherHand x = of(VH + "p0 85 12;");
        due("the last hour", x.letter(0, 10, 1), 95);
        due("the twelfth letter", x.letter(0, 11, 1), UNKNOWN);
    }

    static void promise03_noPapers() {
        due("told(5)", told(VH).told(5), 0);
    }

    static void promise03_fourPapers() {
        reads(VH + "p0 0 1;p0 0 1;p0 0 1;p0 0 1;", 4);
        due("letters", of(VH + "p0 0 1;p0 0 2;p0 0 3;p0 0 4;").told(8), 10);
    }

    static void promise03_aFifthPaperFaultsAtIt() {
        faults(VH + "p0 0 1;p0 0 1;p0 0 1;p0 0 1;p0 0 1;", 3, 42);
        faults(VH + "p0 0 1;p0 0 1;p0 0 1;p0 0 1;  p", 3, 44);
    }

    static void promise03_handsMayComeBehindPapers() {
        reads(VH + "p0 0 1;h1 1 1;p1 0 1;", 2);
    }

    // ---- numbers, words, blanks

    static void promise03_oneToThreeFigures() {
        WeatherHand x = told("v7 07 007;");
        due("W of 7", x.told(1), 7);
        due("D of 07", x.told(2), 7);
        due("L of 007", x.told(3), 7);
    }

    static void promise03_fourFiguresFaultAtTheFirst() {
        faults("v0007 0 0;", 2, 1);
        faults("v0 0000 0;", 2, 3);
        faults("v0 0 0012;", 2, 5);
        faults(VH + "p0 0095 1;", 2, 17);
    }

    static void promise03_longNumbersDoNotWrapAround() {
        faults("v4294967296 0 0;", 2, 1);
        faults("v18446744073709551616 0 0;", 2, 1);
        faults("v" + "0".repeat(100) + " 0 0;", 2, 1);
        faults("v0 0 " + "9".repeat(225), 2, 5);
    }

    static void promise03_threeFiguresOutOfBounds() {
        faults("v100 0 0;", 2, 1);
        faults("v999 0 0;", 2, 1);
        faults("v256 0 0;", 2, 1);
        faults("v0 0 112;", 2, 5);
    }

    static void promise03_blanksMayStandAnywhereElse() {
        reads("   v  1   2  3  ;  d  1  ,  2 ;  h 1 2 3 ;  p 0 1 2 ;  ", 1);
        reads("v 1 2 3;", 0);
        reads("v1 2 3;  ", 0);
    }

    static void promise03_numbersWithoutABlankAreOne() {
        faults("v000;", 1, 4);
        faults("v0 00;", 1, 5);
        faults("v12 3;", 2, 1);
    }

    static void promise03_aBlankPartsANumber() {
        faults("v0 0 1 2;", 1, 7);
        faults(V + "d1 2;", 1, 10);
    }

    static void promise03_only32IsABlank() {
        faults("v0\t0 0;", 1, 2);
        faults("v0\n0 0;", 1, 2);
        faults("v0\u00a00 0;", 1, 2);
        faults("v0 0 0;\u0000", 1, 7);
        faults("\n", 1, 0);
    }

    static void promise03_aLetterThatIsNoWord() {
        faults("x", 1, 0);
        faults("V0 0 0;", 1, 0);
        faults(V + "x", 1, 7);
        faults(V + "\u00ff", 1, 7);
        faults(V + "0", 1, 7);
        faults(V + ",", 1, 7);
        faults(V + "H0 0 0;", 1, 7);
    }

    static void promise03_aWordIsOneLetter() {
        faults("vv0 0 0;", 1, 1);
        faults(V + "dd0;", 1, 8);
        faults(V + "hh0 0 0;", 1, 8);
    }

    static void promise03_signsBesideTheFigures() {
        faults("v/ 0 0;", 1, 1);
        faults("v: 0 0;", 1, 1);
        faults("v-1 0 0;", 1, 1);
        faults("v+1 0 0;", 1, 1);
    }

    static void promise03_aClauseNeedsItsEnd() {
        faults("v0 0 0 h0 0 0;", 1, 7);
        faults("v0 0 0,", 1, 6);
        faults(";", 1, 0);
        faults(V + ";", 1, 7);
        faults("v0,0 0;", 1, 2);
    }

    static void promise03_theEndFaultsAtTheLength() {
        faults("v", 1, 1);
        faults("v0", 1, 2);
        faults("v0 0 0", 1, 6);
        faults("v0 0 0  ", 1, 8);
        faults(V + "d", 1, 8);
        faults(V + "d1,", 1, 10);
        faults(V + "d1", 1, 9);
        faults(V + "h0 0", 1, 11);
        faults(VH + "p0 0 1", 1, 20);
        faults(V + " ".repeat(222) + "d", 1, 230);
    }

    // ---- which fault

    static void promise03_theFirstLetterWithAFaultCounts() {
        faults("v8 x", 2, 1);
        faults("v0 x 99;", 1, 3);
        faults("v9999 0 0;v", 2, 1);
        faults(V + "v x", 3, 7);
        faults(V + "d10,x", 2, 8);
        faults(V + "p0 96 0;", 2, 8);
        faults(VH + "p0 96 0;", 2, 17);
    }

    static void promise03_anOutOfBoundsNumberAheadOfTheEnd() {
        faults("v8", 2, 1);
        faults("v0 0 13", 2, 5);
        faults(V + "p0", 2, 8);
    }

    static void promise03_ofSeveralAtOneLetterTheLeast() {
        // a 'v', 'd', 'h', 'p' too many that cannot stand there: 1, not 3
        faults(V + "d0 d", 1, 10);
        faults("v0 v0 0;", 1, 3);
        faults(V + "h0 0 0;h0 0 0;h0 0 0;h0 0 0;d1h", 1, 37);
        faults(VH + "p0 0 1;p0 0 1;p0 0 1;p0 0 1p", 1, 41);
        // a number too many that is out of all bounds: 1, not 2
        faults("v0 0 0 4444;", 1, 7);
        faults(V + "d1 4444;", 1, 10);
        faults(V + "4444", 1, 7);
        faults("4444", 1, 0);
    }

    static void promise03_theFaultsNumberIsTakenFromMinus10() {
        WeatherHand x = new WeatherHand();
        feed(x, "x");
        due("fault 1", x.valley(), -11);
        feed(x, "v8");
        due("fault 2", x.valley(), -12);
        feed(x, V + "v");
        due("fault 3", x.valley(), -13);
    }

    // ---- what comes of it

    static void promise03_anEmptyTextIsNoValley() {
        WeatherHand x = new WeatherHand();
        due("valley() of an empty text", x.valley(), 0);
        due("told(0)", x.told(0), 0);
        due("fault()", x.fault(), NONE);
        due("weather(0, 0)", x.weather(0, 0), NOT);
    }

    static void promise03_anEmptyTextTakesTheValleyAway() {
        WeatherHand x = of(VALLEY);
        x.keep(0);
        x.bottle(3);
        x.measure(0, 0);
        x.write(0, 0, 0);
        x.seed(9);
        due("valley() of an empty text", x.valley(), 0);
        due("told(0)", x.told(0), 0);
        due("told(4)", x.told(4), 0);
        due("told(5)", x.told(5), 0);
        due("told(7)", x.told(7), NONE);
        due("told(8)", x.told(8), 0);
        due("told(9)", x.told(9), 0);
        due("told(10)", x.told(10), 0);
        due("weather(0, 0)", x.weather(0, 0), NOT);
        due("look(0, 0)", x.look(0, 0), UNKNOWN);
        due("letter(0, 0, 0)", x.letter(0, 0, 0), UNKNOWN);
        due("goBack(0)", x.goBack(0), NOT);
        due("tear()", x.tear(), 0);
        due("seed(0)", x.seed(0), 9);
    }

    static void promise03_theTextIsEmptyThen() {
        WeatherHand x = new WeatherHand();
        feed(x, VALLEY);
        x.valley();
        due("told(6)", x.told(6), 0);
        due("valley() again", x.valley(), 0);
        due("told(0)", x.told(0), 0);
    }

    static void promise03_theTextIsEmptyWithAFaultToo() {
        WeatherHand x = new WeatherHand();
        feed(x, "v0 0 0;x");
        x.valley();
        due("told(6)", x.told(6), 0);
        feed(x, V);
        due("valley() behind the fault", x.valley(), 0);
        due("fault() behind the fault", x.fault(), NONE);
    }

    static void promise03_withAFaultAllIsAsItWas() {
        // busy() has 'v' in its text already
        String[] texts = {"", "8", "0 0 0;v", "7 7 7;d7;h7 7 7;h7 7 7;h7 7 7;h7 7 7;p0 7 7;p1 7 7;p2 7 7;p3 7 7;p3 7 7;"};
        int[] kinds = {1, 2, 3, 3};
        for (int k = 0; k < texts.length; k++) {
            WeatherHand x = busy();
            String before = stateWithoutText(x);
            feed(x, texts[k]);
            due("valley() of 'v" + texts[k] + "'", x.valley(), -10 - kinds[k]);
            due("the state behind 'v" + texts[k] + "' is as it was", stateWithoutText(x).equals(before) ? 1 : 0, 1);
            due("undo(3)", x.undo(3), 6);
            due("goBack(0)", x.goBack(0), 1);
            due("hand(1, 1)", x.hand(1, 1), 8);
            due("weather(24, 1)", x.weather(24, 1), 7);
        }
    }

    static void promise03_papersAreAsToldAgain() {
        WeatherHand x = busy();
        feed(x, VALLEY.substring(1));
        due("valley()", x.valley(), 2);
        due("told(8)", x.told(8), 6);
        due("letter(0, -1, 0)", x.letter(0, NONE, 0), 4);
        due("letter(0, -1, 1)", x.letter(0, NONE, 1), 0);
        due("letter(1, -1, 0)", x.letter(1, NONE, 0), 2);
    }

    static void promise03_theBottleIsEmptied() {
        WeatherHand x = busy();
        feed(x, VALLEY.substring(1));
        x.valley();
        due("told(7)", x.told(7), NONE);
        due("add(0, 0, 0, true)", x.add(0, 0, 0, true), NOT);
    }

    static void promise03_nothingIsMeasuredThen() {
        WeatherHand x = busy();
        feed(x, VALLEY.substring(1));
        x.valley();
        due("letter(0, 0, 3)", x.letter(0, 0, 3), 0);
        due("next(0, 0)", x.next(0, 0), 279);
        due("measure(0, 1)", x.measure(0, 1), 1);
    }

    static void promise03_noBookThen() {
        WeatherHand x = busy();
        x.write(1, 0, 0);
        feed(x, VALLEY.substring(1));
        x.valley();
        due("told(9)", x.told(9), 0);
        due("judge()", x.judge(), NONE);
        due("write(0, 0, 0)", x.write(0, 0, 0), 1);
    }

    static void promise03_imagesAreGone() {
        WeatherHand x = busy();
        x.keep(1);
        feed(x, VALLEY.substring(1));
        x.valley();
        due("goBack(0)", x.goBack(0), NOT);
        due("goBack(1)", x.goBack(1), NOT);
    }

    static void promise03_whatCouldBeUndoneIsGone() {
        WeatherHand x = busy();
        feed(x, VALLEY.substring(1));
        x.valley();
        due("told(10)", x.told(10), 0);
        due("undo(1)", x.undo(1), NOT);
    }

    static void promise03_theSeedStays() {
        WeatherHand x = busy();
        feed(x, VALLEY.substring(1));
        x.valley();
        due("seed(0)", x.seed(0), 78);
    }

    static void promise03_aSmallerValleyLeavesNothingOfTheOld() {
        WeatherHand x = of("v7 9 3;d9,8,7;h1 1 1;h2 2 2;h3 3 3;h4 4 4;p0 0 1;p1 0 1;p2 0 1;p3 0 1;");
        feed(x, CALM);
        due("valley()", x.valley(), 0);
        due("told(1)", x.told(1), 0);
        due("told(2)", x.told(2), 0);
        due("told(3)", x.told(3), 12);
        due("told(4)", x.told(4), 1);
        due("told(8)", x.told(8), 0);
        due("hand(1, 0)", x.hand(1, 0), UNKNOWN);
        due("letter(0, 0, 0)", x.letter(0, 0, 0), UNKNOWN);
        due("no rain of the old", x.weather(0, 1), 0);
    }

    static void promise03_noLetterOfTheOldTextIsRead() {
        faultsBehind("v0 0 0;", "v0 0 0", 1, 6);
        faultsBehind("v0 0 11;", "v0 0 ", 1, 5);
        faultsBehind("v0 0 0;d1,2;", "v0 0 0;d1", 1, 9);
        faultsBehind("v0 0 0;d1,2;", "v0 0 0;d1,", 1, 10);
        faultsBehind("v0 0 0;h1 1 1;", "v0 0 0;h", 1, 8);
        WeatherHand x = of("v0 0 0;h1 1 1;");
        feed(x, "v0 0 1;");
        due("valley() of a shorter text", x.valley(), 0);
        due("told(4)", x.told(4), 0);
    }

    private static void faultsBehind(String old, String text, int kind, int at) {
        WeatherHand x = of(old);
        feed(x, text);
        due("valley() of '" + text + "' behind '" + old + "'", x.valley(), -10 - kind);
        due("fault()", x.fault(), at);
    }

    static void promise03_nothingOfAFaultyTextIsLeftBehind() {
        WeatherHand x = new WeatherHand();
        feed(x, "v7 9 3;d9,8,7;h1 1 1;h2 2 2;p1 0 1;x");
        due("valley() with a fault", x.valley(), -11);
        feed(x, "v0 0 12;h5 5 5;");
        due("valley()", x.valley(), 0);
        due("told(4)", x.told(4), 1);
        due("hand(0, 0)", x.hand(0, 0), 5);
        due("weather(0, 1)", x.weather(0, 1), 0);
    }
}
