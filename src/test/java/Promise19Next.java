/** MEASURE next: HANDS and HOURS from which the whole PAPER could begin, and the LETTER that tells them apart best. */
public final class Promise19Next extends Boundary {
    public static void main(String[] args) {
        run(Promise19Next.class);
    }

    private static void next(WeatherHand x, int p, int many, int letter) {
        due("next(" + p + ", 0)", x.next(p, 0), many);
        due("next(" + p + ", 1)", x.next(p, 1), letter);
    }

    static void promise19_papersThatThereAreNot() {
        refused("next(-1, 0)", UNKNOWN, x -> x.next(-1, 0));
        refused("next(2, 0)", UNKNOWN, x -> x.next(2, 0));
        refused("next(least, 1)", UNKNOWN, x -> x.next(LEAST, 1));
        refused("next(most, 1)", UNKNOWN, x -> x.next(MOST, 1));
    }

    static void promise19_whatOutside() {
        refused("next(0, -1)", OUTSIDE, x -> x.next(0, -1));
        refused("next(0, 2)", OUTSIDE, x -> x.next(0, 2));
        refused("next(0, least)", OUTSIDE, x -> x.next(0, LEAST));
        refused("next(0, most)", OUTSIDE, x -> x.next(0, MOST));
    }

    static void promise19_unknownComesAheadOfOutside() {
        refused("next(2, 2)", UNKNOWN, x -> x.next(2, 2));
        refused("next(-1, -1)", UNKNOWN, x -> x.next(-1, -1));
    }

    static void promise19_anEmptyPaper() {
        WeatherHand x = of("v1 0 12;h0 0 0;h1 0 0;h2 0 0;h3 0 0;p0 0 1;");
        x.blot(0);
        next(x, 0, 384, NONE);
    }

    static void promise19_nothingMeasuredOfOneLetter() {
        due("next(0, 0)", of(WINDY + "p0 5 1;").next(0, 0), 96);
    }

    static void promise19_nothingMeasuredOfAFullPaper() {
        due("one hand", of(WINDY + "p0 5 12;").next(0, 0), 85);
        due("four hands", of(WINDY + "h0 0 0;h0 0 0;h0 0 0;p0 5 12;").next(0, 0), 340);
    }

    static void promise19_theWholePaperMustEndAt95() {
        // the first letter is as at 95 alone, but a second is behind it
        WeatherHand x = of(EDGES + "p0 95 1;");
        x.measure(0, 0);
        due("next(0, 0) of one letter", x.next(0, 0), 1);
        x.add(0, 0, 0, false);
        next(x, 0, 0, NONE);
    }

    static void promise19_aRowThatEndsJustAt95() {
        WeatherHand x = of(EDGES + "p0 84 12;");
        x.measure(0, 11);
        next(x, 0, 1, NONE);
    }

    static void promise19_onlyMeasuredLettersNeedBeAsTheyAre() {
        WeatherHand x = of(WINDY + "p0 0 1;");
        x.add(0, 0, 5, false);
        due("next(0, 0) of none", x.next(0, 0), 95);
        x.measure(0, 0);
        due("next(0, 0) of the first", x.next(0, 0), 12);
        x.measure(0, 1);
        next(x, 0, 0, NONE);
    }

    static void promise19_theLastPlaceMeasured() {
        WeatherHand x = of(WINDY + "p0 0 12;");
        x.measure(0, 11);
        // the hours that leave over 0 by 8 up to 84
        due("next(0, 0)", x.next(0, 0), 11);
    }

    static void promise19_anyHand() {
        // hand 1 leans by 1: it could begin an hour earlier
        WeatherHand x = of(WINDY + "h1 0 0;p0 3 1;");
        x.measure(0, 0);
        due("next(0, 0)", x.next(0, 0), 24);
    }

    static void promise19_handsAreToldApartToo() {
        next(of(CALM + "h1 0 0;p0 0 1;"), 0, 192, 0);
        next(of(CALM + "h0 1 0;p0 0 1;"), 0, 192, 0);
        next(of(CALM + "h0 0 1;p0 0 1;"), 0, 192, 0);
        next(of(CALM + "h0 0 0;p0 0 1;"), 0, 192, NONE);
    }

    static void promise19_marksAreNotMixedUp() {
        // every two of these hands' letters differ, though one mark could make up for another
        next(of("v0 0 12;h1 0 0;h0 8 8;h0 8 0;p0 0 1;"), 0, 288, 0);
        String[] pairs = {"h1 0 0;h0 1 0;", "h0 1 0;h0 0 1;", "h1 0 0;h0 0 1;", "h8 0 0;h0 0 8;", "h0 0 8;h0 1 0;",
            "h8 8 8;h0 0 0;", "h8 8 8;h8 8 7;", "h7 8 8;h8 0 0;", "h1 1 0;h0 1 1;", "h2 0 0;h1 8 8;"};
        for (String two : pairs) {
            next(of("v0 0 12;" + two + "p0 0 1;"), 0, 192, 0);
            next(of("v0 9 12;d9;" + two + "p0 0 1;"), 0, 192, 0);
        }
    }

    static void promise19_twoBeginningsToldApart() {
        // in the dark the hands that press by 7 and 8 both write 9; only one hour makes the letter measured
        WeatherHand x = of("v1 0 8;d8,0,0,0,0,0,0,4;h0 0 7;h0 0 8;p0 91 2;");
        x.measure(0, 1);
        next(x, 0, 2, 0);
        x.measure(0, 0);
        next(x, 0, 1, NONE);
    }

    static void promise19_noneParts() {
        next(of(CALM + "p0 0 12;"), 0, 85, NONE);
    }

    static void promise19_oneBeginningIsNotParted() {
        WeatherHand x = of(EDGES + "p0 0 1;");
        x.measure(0, 0);
        next(x, 0, 1, NONE);
    }

    static void promise19_theGreatestPartIsLeast() {
        // dark at 11 of each day: the letter 0 is dark for 7 beginnings of 95, the letter 1 for 8
        next(of("v0 2 11;h0 0 0;p0 0 2;"), 0, 95, 1);
    }

    static void promise19_theLastLetterOfAFullPaper() {
        // only the last day is damp: the letter l reaches it from l + 1 hours
        next(of("v0 0 12;d0,0,0,0,0,0,0,2;h0 0 0;p0 0 12;"), 0, 85, 11);
    }

    static void promise19_ofLikeOnesTheLeast() {
        next(of(WINDY + "p0 0 3;"), 0, 94, 0);
        // the greatest parts are 40, 39, 39
        next(of("v4 2 9;h0 0 0;p0 0 3;"), 0, 94, 1);
    }

    static void promise19_onlyTheGreatestPartCounts() {
        // greatest parts of 12 both, though the other parts of letter 1 are more even
        next(of("v1 1 11;h0 0 0;p0 0 2;"), 0, 95, 0);
    }

    static void promise19_aMeasuredLetterIsNotTheNext() {
        WeatherHand x = of("v1 0 12;h0 0 0;h1 0 0;d0,0,0,0,2;p0 0 2;");
        int first = x.next(0, 1);
        x.measure(0, first);
        due("another letter is next, or none", x.next(0, 1) == first ? 1 : 0, 0);
    }

    static void promise19_aMeasuredPlaceWithoutItsLetterAsksNothing() {
        WeatherHand x = of(WINDY + "p0 0 2;");
        x.measure(0, 1);
        due("next(0, 0) measured", x.next(0, 0), 12);
        x.blot(0);
        due("next(0, 0) blotted", x.next(0, 0), 96);
        x.blot(0);
        next(x, 0, 96, NONE);
    }

    static void promise19_aMeasuredPlaceAsksOfANewLetter() {
        WeatherHand x = of(EDGES + "p0 84 1;");
        x.measure(0, 0);
        x.blot(0);
        x.add(0, 0, 0, false);
        due("next(0, 0)", x.next(0, 0), 1);
    }

    static void promise19_tornMeasuresAskNothing() {
        WeatherHand x = of(EDGES + "p0 0 1;");
        x.measure(0, 0);
        x.tear();
        due("next(0, 0)", x.next(0, 0), 96);
    }

    static void promise19_anotherPapersMeasuresAskNothing() {
        WeatherHand x = of(EDGES + "p0 0 1;p0 0 1;");
        x.measure(1, 0);
        due("next(0, 0)", x.next(0, 0), 96);
        due("next(1, 0)", x.next(1, 0), 1);
    }

    static void promise19_aForgedLetterByItsLook() {
        WeatherHand x = of(WINDY + "p0 0 1;");
        x.bottle(1);
        x.add(0, 0, 60, true);
        x.measure(0, 0);
        x.measure(0, 1);
        due("next(0, 0)", x.next(0, 0), 12);
    }

    static void promise19_itChangesNothing() {
        changesNothing("next(0, 0)", x -> x.next(0, 0));
        changesNothing("next(0, 1)", x -> x.next(0, 1));
    }
}
