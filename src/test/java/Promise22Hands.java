/** HANDS found: for each PAPER another HAND, so that as many LETTERS as can be are as it would have written them. */
public final class Promise22Hands extends Boundary {
    public static void main(String[] args) {
        run(Promise22Hands.class);
    }

    private static void found(WeatherHand x, int many, int... hands) {
        due("hands(-1)", x.hands(NONE), many);
        for (int p = 0; p < hands.length; p++) {
            due("hands(" + p + ")", x.hands(p), hands[p]);
        }
    }

    static void promise22_papersBelowNone() {
        refused("hands(-2)", UNKNOWN, x -> x.hands(-2));
        refused("hands(least)", UNKNOWN, x -> x.hands(LEAST));
    }

    static void promise22_papersBeyondTheLast() {
        refused("hands(2)", UNKNOWN, x -> x.hands(2));
        refused("hands(most)", UNKNOWN, x -> x.hands(MOST));
    }

    static void promise22_noPapers() {
        due("hands(-1)", of(CALM).hands(NONE), 0);
        due("hands(0)", of(CALM).hands(0), UNKNOWN);
    }

    static void promise22_morePapersThanHands() {
        WeatherHand x = of(CALM + "p0 0 1;p0 0 1;");
        found(x, NONE, NONE, NONE);
        WeatherHand y = of(CALM + "h1 0 0;h2 0 0;p0 0 1;p0 0 1;p0 0 1;p0 0 1;");
        found(y, NONE, NONE, NONE, NONE, NONE);
    }

    static void promise22_unknownComesAheadOfMorePapersThanHands() {
        due("hands(2)", of(CALM + "p0 0 1;p0 0 1;").hands(2), UNKNOWN);
        due("hands(-2)", of(CALM + "p0 0 1;p0 0 1;").hands(-2), UNKNOWN);
    }

    static void promise22_asManyPapersAsHands() {
        found(of(CALM + "p0 0 3;"), 3, 0);
        found(of(CALM + "h1 0 0;p1 0 3;p0 0 2;"), 5, 1, 0);
    }

    static void promise22_fourFullPapers() {
        found(of("v0 0 12;h0 0 0;h1 0 0;h2 0 0;h3 0 0;p3 0 12;p2 0 12;p1 0 12;p0 0 12;"), 48, 3, 2, 1, 0);
        found(of("v0 0 12;h0 0 0;h1 0 0;h2 0 0;h3 0 0;p1 0 12;p3 0 12;p0 0 12;p2 0 12;"), 48, 1, 3, 0, 2);
    }

    static void promise22_theLastHandOfFour() {
        found(of("v0 0 12;h0 0 0;h1 0 0;h2 0 0;h3 0 0;p3 0 1;"), 1, 3);
    }

    static void promise22_aHandHasOnePaper() {
        found(of(CALM + "h1 0 0;p0 0 2;p0 0 3;"), 3, 1, 0);
        found(of(CALM + "h1 0 0;p0 0 3;p0 0 2;"), 3, 0, 1);
    }

    static void promise22_aHandHasOnePaperOfThree() {
        found(of(CALM + "h1 0 0;h2 0 0;p0 0 2;p1 0 2;p0 0 3;"), 5, 2, 1, 0);
        found(of(CALM + "h1 0 0;h2 0 0;h3 0 0;p0 0 3;p1 0 2;p2 0 2;p0 0 2;"), 7, 0, 1, 2, 3);
    }

    static void promise22_handsOfAnOlderValleyAreNone() {
        WeatherHand x = of(CALM + "h1 0 0;h2 0 0;h3 0 0;p2 0 12;p3 0 12;");
        found(x, 24, 2, 3);
        feed(x, CALM + "h1 0 0;p0 0 2;p0 0 3;");
        x.valley();
        found(x, 3, 1, 0);
    }

    static void promise22_ofLikeOnesTheLesserHandPaperByPaper() {
        found(of(CALM + "h0 0 0;p1 0 2;p0 0 3;"), 5, 0, 1);
        found(of(CALM + "h1 0 0;p0 0 2;p0 0 2;"), 2, 0, 1);
        found(of(CALM + "h1 0 0;h2 0 0;p2 0 2;p2 0 2;"), 2, 0, 2);
    }

    static void promise22_emptyPapers() {
        WeatherHand x = of(CALM + "h1 0 0;h2 0 0;p2 0 1;p1 0 1;");
        x.blot(0);
        x.blot(1);
        found(x, 0, 0, 1);
    }

    static void promise22_noLetterFits() {
        // neither hand would make the look of hand 0 in the air of 1 at the hour told
        WeatherHand x = of("v1 0 12;h0 0 0;h5 0 0;p0 0 1;");
        x.blot(0);
        x.bottle(1);
        x.add(0, 0, 0, true);
        found(x, 0, 0);
    }

    static void promise22_aForgedLetterAtTheHourTold() {
        WeatherHand x = of("v1 0 12;h0 0 0;h1 0 0;p0 0 1;");
        x.blot(0);
        x.bottle(1);
        x.add(0, 0, 0, true);
        found(x, 1, 1);
    }

    static void promise22_atTheirHoursNotAtSomeHour() {
        // hand 1 would make hand 0's look of 3 at 2, but not at 3
        found(of(WINDY + "h1 0 0;p0 3 2;p1 3 3;"), 5, 0, 1);
    }

    static void promise22_lettersOfSeveralHands() {
        WeatherHand x = of(CALM + "h1 0 0;p0 0 1;");
        x.add(0, 1, 5, false);
        found(x, 1, 0);
        x.add(0, 1, 6, false);
        found(x, 2, 1);
    }

    static void promise22_itChangesNothing() {
        changesNothing("hands(-1)", x -> x.hands(NONE));
        changesNothing("hands(0)", x -> x.hands(0));
    }
}
