/** SOONEST: the first HOUR from t on (0 .. 95) at which a HAND makes a told LOOK; NONE. */
public final class Promise20Soonest extends Boundary {
    public static void main(String[] args) {
        run(Promise20Soonest.class);
    }

    static void promise20_handsThatThereAreNot() {
        refused("soonest(-1, 0, 0)", UNKNOWN, x -> x.soonest(-1, 0, 0));
        refused("soonest(3, 0, 0)", UNKNOWN, x -> x.soonest(3, 0, 0));
        refused("soonest(least, 0, 0)", UNKNOWN, x -> x.soonest(LEAST, 0, 0));
        refused("soonest(most, 0, 0)", UNKNOWN, x -> x.soonest(MOST, 0, 0));
    }

    static void promise20_looksBelow0() {
        refused("soonest(0, -1, 0)", OUTSIDE, x -> x.soonest(0, -1, 0));
        refused("soonest(0, least, 0)", OUTSIDE, x -> x.soonest(0, LEAST, 0));
    }

    static void promise20_looksAbove9999() {
        refused("soonest(0, 10000, 0)", OUTSIDE, x -> x.soonest(0, 10000, 0));
        refused("soonest(0, most, 0)", OUTSIDE, x -> x.soonest(0, MOST, 0));
    }

    static void promise20_looks0And9999() {
        due("soonest(0, 0, 0)", of(CALM).soonest(0, 0, 0), 0);
        due("soonest(0, 9999, 0)", of(CALM).soonest(0, 9999, 0), NONE);
        due("soonest(0, 8159, 0)", of("v0 9 0;d9;h8 8 8;").soonest(0, 8159, 0), 0);
    }

    static void promise20_hoursBelow0() {
        refused("soonest(0, 0, -1)", OUTSIDE, x -> x.soonest(0, 0, -1));
        refused("soonest(0, 0, least)", OUTSIDE, x -> x.soonest(0, 0, LEAST));
    }

    static void promise20_hoursAbove95() {
        refused("soonest(0, 0, 96)", OUTSIDE, x -> x.soonest(0, 0, 96));
        refused("soonest(0, 0, most)", OUTSIDE, x -> x.soonest(0, 0, MOST));
    }

    static void promise20_unknownComesAheadOfOutside() {
        refused("soonest(3, 10000, 0)", UNKNOWN, x -> x.soonest(3, 10000, 0));
        refused("soonest(3, 0, 96)", UNKNOWN, x -> x.soonest(3, 0, 96));
        refused("soonest(-1, -1, -1)", UNKNOWN, x -> x.soonest(-1, -1, -1));
    }

    static void promise20_theHourItselfCounts() {
        WeatherHand x = of(WINDY);
        due("soonest(0, 3000, 2)", x.soonest(0, 3000, 2), 3);
        due("soonest(0, 3000, 3)", x.soonest(0, 3000, 3), 3);
        due("soonest(0, 3000, 4)", x.soonest(0, 3000, 4), 11);
    }

    static void promise20_hour0Alone() {
        WeatherHand x = of(EDGES);
        due("soonest(0, 40, 0)", x.soonest(0, 40, 0), 0);
        due("soonest(0, 40, 1)", x.soonest(0, 40, 1), NONE);
    }

    static void promise20_hour95Alone() {
        WeatherHand x = of(EDGES);
        due("soonest(0, 7042, 0)", x.soonest(0, 7042, 0), 95);
        due("soonest(0, 7042, 95)", x.soonest(0, 7042, 95), 95);
    }

    static void promise20_itDoesNotGoRound() {
        WeatherHand x = of(WINDY);
        due("soonest(0, 7000, 95)", x.soonest(0, 7000, 95), 95);
        due("soonest(0, 6000, 95)", x.soonest(0, 6000, 95), NONE);
        due("soonest(0, 0, 89)", x.soonest(0, 0, 89), NONE);
    }

    static void promise20_never() {
        due("soonest(0, 8000, 0)", of(WINDY).soonest(0, 8000, 0), NONE);
        due("soonest(0, 1, 0)", of(WINDY).soonest(0, 1, 0), NONE);
    }

    static void promise20_itChangesNothing() {
        changesNothing("soonest(0, 3022, 0)", x -> x.soonest(0, 3022, 0));
    }
}
