/** "Of a HAND: what = 0 A, 1 B, 2 C. UNKNOWN, OUTSIDE." */
public final class Promise07Hand extends Boundary {
    public static void main(String[] args) {
        run(Promise07Hand.class);
    }

    static void promise07_handsBelow0() {
        refused("hand(-1, 0)", UNKNOWN, x -> x.hand(-1, 0));
        refused("hand(least, 0)", UNKNOWN, x -> x.hand(LEAST, 0));
    }

    static void promise07_handsBeyondTheLast() {
        refused("hand(3, 0)", UNKNOWN, x -> x.hand(3, 0));
        refused("hand(most, 0)", UNKNOWN, x -> x.hand(MOST, 0));
        due("hand(4, 0) of four", of("v0 0 0;h1 1 1;h1 1 1;h1 1 1;h1 1 1;").hand(4, 0), UNKNOWN);
    }

    static void promise07_whatBelow0() {
        refused("hand(0, -1)", OUTSIDE, x -> x.hand(0, -1));
        refused("hand(0, least)", OUTSIDE, x -> x.hand(0, LEAST));
    }

    static void promise07_whatAbove2() {
        refused("hand(0, 3)", OUTSIDE, x -> x.hand(0, 3));
        refused("hand(0, most)", OUTSIDE, x -> x.hand(0, MOST));
    }

    static void promise07_unknownComesAheadOfOutside() {
        refused("hand(3, 3)", UNKNOWN, x -> x.hand(3, 3));
        refused("hand(-1, -1)", UNKNOWN, x -> x.hand(-1, -1));
    }

    static void promise07_unknownWithoutAValley() {
        due("hand(0, 0)", new WeatherHand().hand(0, 0), UNKNOWN);
        due("hand(0, 3)", new WeatherHand().hand(0, 3), UNKNOWN);
    }

    static void promise07_theFirstAndTheFourth() {
        WeatherHand x = of("v0 0 0;h1 2 3;h0 0 0;h0 0 0;h8 7 6;");
        int[] first = {1, 2, 3};
        int[] fourth = {8, 7, 6};
        for (int what = 0; what <= 2; what++) {
            due("hand(0, " + what + ")", x.hand(0, what), first[what]);
            due("hand(3, " + what + ")", x.hand(3, what), fourth[what]);
        }
    }

    static void promise07_itChangesNothing() {
        changesNothing("hand(0, 0)", x -> x.hand(0, 0));
    }
}
