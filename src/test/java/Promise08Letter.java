/** A LETTER of a PAPER, or with NONE all of them; MARKS with their bounds, as a LETTER shows them. */
public final class Promise08Letter extends Boundary {
    public static void main(String[] args) {
        run(Promise08Letter.class);
    }

    static void promise08_papersBelow0() {
        refused("letter(-1, 0, 0)", UNKNOWN, x -> x.letter(-1, 0, 0));
        refused("letter(-1, -1, 0)", UNKNOWN, x -> x.letter(-1, NONE, 0));
        refused("letter(least, 0, 0)", UNKNOWN, x -> x.letter(LEAST, 0, 0));
    }

    static void promise08_papersBeyondTheLast() {
        refused("letter(2, 0, 0)", UNKNOWN, x -> x.letter(2, 0, 0));
        refused("letter(2, -1, 0)", UNKNOWN, x -> x.letter(2, NONE, 0));
        refused("letter(most, 0, 0)", UNKNOWN, x -> x.letter(MOST, 0, 0));
        due("letter(4, -1, 0) of four", of(CALM + "p0 0 1;p0 0 1;p0 0 1;p0 0 1;").letter(4, NONE, 0), UNKNOWN);
    }

    static void promise08_lettersBelowNone() {
        refused("letter(0, -2, 0)", UNKNOWN, x -> x.letter(0, -2, 0));
        refused("letter(0, least, 0)", UNKNOWN, x -> x.letter(0, LEAST, 0));
    }

    static void promise08_lettersBeyondTheLast() {
        refused("letter(1, 3, 0)", UNKNOWN, x -> x.letter(1, 3, 0));
        refused("letter(0, 12, 0)", UNKNOWN, x -> x.letter(0, 12, 0));
        refused("letter(0, most, 0)", UNKNOWN, x -> x.letter(0, MOST, 0));
        due("letter(0, 12, 0) of a full paper", of(CALM + "p0 0 12;p0 0 12;").letter(0, 12, 0), UNKNOWN);
    }

    static void promise08_whatBelow0() {
        refused("letter(0, 0, -1)", OUTSIDE, x -> x.letter(0, 0, -1));
        refused("letter(0, 0, least)", OUTSIDE, x -> x.letter(0, 0, LEAST));
        refused("letter(0, -1, -1)", OUTSIDE, x -> x.letter(0, NONE, -1));
    }

    static void promise08_whatAbove4() {
        refused("letter(0, 0, 5)", OUTSIDE, x -> x.letter(0, 0, 5));
        refused("letter(0, 0, most)", OUTSIDE, x -> x.letter(0, 0, MOST));
    }

    static void promise08_whatAbove1OfAllLetters() {
        for (int what = 2; what <= 5; what++) {
            int asked = what;
            refused("letter(0, -1, " + what + ")", OUTSIDE, x -> x.letter(0, NONE, asked));
        }
        refused("letter(0, -1, most)", OUTSIDE, x -> x.letter(0, NONE, MOST));
    }

    static void promise08_unknownComesAheadOfOutside() {
        refused("letter(2, 0, 5)", UNKNOWN, x -> x.letter(2, 0, 5));
        refused("letter(2, -1, 2)", UNKNOWN, x -> x.letter(2, NONE, 2));
        refused("letter(0, 5, 5)", UNKNOWN, x -> x.letter(0, 5, 5));
        refused("letter(0, -2, -1)", UNKNOWN, x -> x.letter(0, -2, -1));
    }

    static void promise08_theFirstAndTheLastOfAFullPaper() {
        WeatherHand x = of(WINDY + "p0 84 12;");
        due("letter(0, -1, 0)", x.letter(0, NONE, 0), 12);
        due("letter(0, 0, 0)", x.letter(0, 0, 0), 4000);
        due("letter(0, 0, 1)", x.letter(0, 0, 1), 84);
        due("letter(0, 11, 0)", x.letter(0, 11, 0), 7000);
        due("letter(0, 11, 1)", x.letter(0, 11, 1), 95);
    }

    static void promise08_anEmptyPaper() {
        WeatherHand x = of(CALM + "p0 0 1;");
        x.blot(0);
        due("letter(0, -1, 0)", x.letter(0, NONE, 0), 0);
        due("letter(0, -1, 1)", x.letter(0, NONE, 1), 0);
        due("letter(0, 0, 0)", x.letter(0, 0, 0), UNKNOWN);
    }

    static void promise08_aLetterAddedAndBlotted() {
        WeatherHand x = of(VALLEY);
        x.add(0, 2, 94, false);
        due("letter(0, 4, 0)", x.letter(0, 4, 0), 5019);
        due("letter(0, 4, 1)", x.letter(0, 4, 1), 94);
        due("letter(0, 4, 2)", x.letter(0, 4, 2), 2);
        x.blot(0);
        due("letter(0, 4, 0) blotted", x.letter(0, 4, 0), UNKNOWN);
    }

    static void promise08_measuredOrNot() {
        WeatherHand x = of(VALLEY);
        due("letter(0, 3, 3)", x.letter(0, 3, 3), 0);
        x.measure(0, 3);
        due("letter(0, 3, 3) measured", x.letter(0, 3, 3), 1);
        due("letter(0, 2, 3)", x.letter(0, 2, 3), 0);
        due("letter(1, 0, 3)", x.letter(1, 0, 3), 0);
    }

    static void promise08_forgedOrNot() {
        WeatherHand x = of(VALLEY);
        x.bottle(9);
        x.add(0, 1, 33, true);
        x.add(0, 1, 33, false);
        due("letter(0, 3, 4) as told", x.letter(0, 3, 4), 0);
        due("letter(0, 4, 4) from the bottle", x.letter(0, 4, 4), 1);
        due("letter(0, 5, 4) without it", x.letter(0, 5, 4), 0);
        due("letter(0, -1, 1)", x.letter(0, NONE, 1), 1);
        due("letter(1, -1, 1)", x.letter(1, NONE, 1), 0);
    }

    static void promise08_aFullPaperOfForgedLetters() {
        WeatherHand x = of(CALM + "p0 0 1;");
        x.blot(0);
        x.bottle(95);
        for (int k = 0; k < 12; k++) {
            x.add(0, 0, 0, true);
        }
        due("letter(0, -1, 1)", x.letter(0, NONE, 1), 12);
        due("letter(0, 11, 4)", x.letter(0, 11, 4), 1);
    }

    static void promise08_aForgedLetterHasTheHourTold() {
        WeatherHand x = of(WINDY + "p0 0 1;");
        x.bottle(3);
        x.add(0, 0, 90, true);
        due("its hour", x.letter(0, 1, 1), 90);
        due("its look", x.letter(0, 1, 0), 3000);
    }

    static void promise08_leanLeavesOverBy9() {
        WeatherHand x = of("v1 0 12;h8 0 0;p0 0 8;");
        int[] want = {8000, 0, 1000, 2000, 3000, 4000, 5000, 6000};
        for (int l = 0; l < 8; l++) {
            due("letter(0, " + l + ", 0)", x.letter(0, l, 0), want[l]);
        }
    }

    static void promise08_fullCutsHalfTheDamp() {
        WeatherHand x = of("v0 0 8;h0 0 0;p0 7 5;");
        int[] want = {0, 2, 12, 12, 22};
        for (int l = 0; l < 5; l++) {
            due("letter(0, " + l + ", 0)", x.letter(0, l, 0), want[l]);
        }
    }

    static void promise08_fullIs15AtMost() {
        due("6 and 18 / 2", of("v0 9 12;d9;h0 6 0;p0 0 1;").letter(0, 0, 0), 150);
        due("7 and 18 / 2", of("v0 9 12;d9;h0 7 0;p0 0 1;").letter(0, 0, 0), 150);
        due("8 and 18 / 2", of("v0 9 12;d9;h0 8 0;p0 0 1;").letter(0, 0, 0), 150);
        due("5 and 18 / 2", of("v0 9 12;d9;h0 5 0;p0 0 1;").letter(0, 0, 0), 140);
    }

    static void promise08_thickIs9AtMost() {
        due("6 in the dark", of("v0 0 0;h0 0 6;p0 0 1;").letter(0, 0, 0), 8);
        due("7 in the dark", of("v0 0 0;h0 0 7;p0 0 1;").letter(0, 0, 0), 9);
        due("8 in the dark", of("v0 0 0;h0 0 8;p0 0 1;").letter(0, 0, 0), 9);
        due("8 in the light", of("v0 0 12;h0 0 8;p0 0 1;").letter(0, 0, 0), 8);
    }

    static void promise08_itChangesNothing() {
        changesNothing("letter(0, 0, 0)", x -> x.letter(0, 0, 0));
        changesNothing("letter(0, -1, 1)", x -> x.letter(0, NONE, 1));
    }
}
