/** LIKELY: of HOURS 0 to 95 at how many a HAND makes it: a MILLION times / 96. */
public final class Promise21Likely extends Boundary {
    public static void main(String[] args) {
        run(Promise21Likely.class);
    }

    static void promise21_handsThatThereAreNot() {
        refused("likely(-1, 0)", UNKNOWN, x -> x.likely(-1, 0));
        refused("likely(3, 0)", UNKNOWN, x -> x.likely(3, 0));
        refused("likely(least, 0)", UNKNOWN, x -> x.likely(LEAST, 0));
        refused("likely(most, 0)", UNKNOWN, x -> x.likely(MOST, 0));
    }

    static void promise21_looksBelow0() {
        refused("likely(0, -1)", OUTSIDE, x -> x.likely(0, -1));
        refused("likely(0, least)", OUTSIDE, x -> x.likely(0, LEAST));
    }

    static void promise21_looksAbove9999() {
        refused("likely(0, 10000)", OUTSIDE, x -> x.likely(0, 10000));
        refused("likely(0, most)", OUTSIDE, x -> x.likely(0, MOST));
    }

    static void promise21_looks0And9999() {
        due("likely(0, 0)", of(CALM).likely(0, 0), 1000000);
        due("likely(0, 9999)", of(CALM).likely(0, 9999), 0);
    }

    static void promise21_unknownComesAheadOfOutside() {
        refused("likely(3, 10000)", UNKNOWN, x -> x.likely(3, 10000));
        refused("likely(-1, -1)", UNKNOWN, x -> x.likely(-1, -1));
    }

    static void promise21_atNoHour() {
        due("likely(0, 8000)", of(WINDY).likely(0, 8000), 0);
    }

    static void promise21_atAllHours() {
        due("likely(0, 0)", of(CALM).likely(0, 0), 1000000);
    }

    static void promise21_atHour0Alone() {
        due("likely(0, 40)", of(EDGES).likely(0, 40), 10416);
    }

    static void promise21_atHour95Alone() {
        due("likely(0, 7042)", of(EDGES).likely(0, 7042), 10416);
    }

    static void promise21_itCutsTowards0() {
        WeatherHand x = of("v0 0 11;h0 0 0;");
        due("8 of 96", x.likely(0, 2), 83333);
        due("88 of 96", x.likely(0, 0), 916666);
    }

    static void promise21_itChangesNothing() {
        changesNothing("likely(0, 3022)", x -> x.likely(0, 3022));
    }
}
