/** AIR: HOURS whose AIR makes a HAND's LETTER look as at a told HOUR: how many; the i-th; NONE. */
public final class Promise24Air extends Boundary {
    public static void main(String[] args) {
        run(Promise24Air.class);
    }

    static void promise24_handsThatThereAreNot() {
        refused("air(-1, 0, 0)", UNKNOWN, x -> x.air(-1, 0, 0));
        refused("air(3, 0, 0)", UNKNOWN, x -> x.air(3, 0, 0));
        refused("air(least, 0, -1)", UNKNOWN, x -> x.air(LEAST, 0, NONE));
        refused("air(most, 0, -1)", UNKNOWN, x -> x.air(MOST, 0, NONE));
    }

    static void promise24_hoursBelow0() {
        refused("air(0, -1, 0)", OUTSIDE, x -> x.air(0, -1, 0));
        refused("air(0, least, -1)", OUTSIDE, x -> x.air(0, LEAST, NONE));
    }

    static void promise24_hoursAbove95() {
        refused("air(0, 96, 0)", OUTSIDE, x -> x.air(0, 96, 0));
        refused("air(0, most, -1)", OUTSIDE, x -> x.air(0, MOST, NONE));
    }

    static void promise24_unknownComesAheadOfOutside() {
        refused("air(3, 96, 0)", UNKNOWN, x -> x.air(3, 96, 0));
        refused("air(-1, -1, -1)", UNKNOWN, x -> x.air(-1, -1, NONE));
    }

    static void promise24_everyHour() {
        WeatherHand x = of(CALM);
        due("how many", x.air(0, 50, NONE), 96);
        due("the first", x.air(0, 50, 0), 0);
        due("the last", x.air(0, 50, 95), 95);
        due("one more", x.air(0, 50, 96), NONE);
    }

    static void promise24_hour0Alone() {
        WeatherHand x = of(EDGES);
        due("how many", x.air(0, 0, NONE), 1);
        due("the first", x.air(0, 0, 0), 0);
        due("one more", x.air(0, 0, 1), NONE);
    }

    static void promise24_hour95Alone() {
        WeatherHand x = of(EDGES);
        due("how many", x.air(0, 95, NONE), 1);
        due("the first", x.air(0, 95, 0), 95);
        due("one more", x.air(0, 95, 1), NONE);
    }

    static void promise24_theOrderIsThatOfHours() {
        WeatherHand x = of(WINDY);
        for (int i = 0; i < 12; i++) {
            due("the hour " + i, x.air(0, 50, i), 2 + 8 * i);
        }
        due("one more", x.air(0, 50, 12), NONE);
    }

    static void promise24_farBeyondTheLast() {
        due("air(0, 0, most)", of(CALM).air(0, 0, MOST), NONE);
    }

    static void promise24_belowNone() {
        due("air(0, 0, -2)", of(CALM).air(0, 0, -2), NONE);
        due("air(0, 0, least)", of(CALM).air(0, 0, LEAST), NONE);
    }

    static void promise24_anotherHandAnotherAir() {
        // damp of 18 and of 16 both fill the second hand's letters to the most
        WeatherHand x = of("v0 9 12;d9,7;h0 0 0;h0 8 0;");
        due("hand 0", x.air(0, 0, NONE), 48);
        due("hand 1", x.air(1, 0, NONE), 96);
        due("hand 0 from the second day on", x.air(0, 12, 0), 12);
        due("hand 1 from the first day on", x.air(1, 12, 0), 0);
    }

    static void promise24_itChangesNothing() {
        changesNothing("air(0, 0, -1)", x -> x.air(0, 0, NONE));
        changesNothing("air(0, 0, 0)", x -> x.air(0, 0, 0));
    }
}
