/** WRITTEN of a LETTER: HOURS at which a told HAND would make its LOOK: how many; the i-th; NONE. */
public final class Promise15Written extends Boundary {
    public static void main(String[] args) {
        run(Promise15Written.class);
    }

    static void promise15_papersThatThereAreNot() {
        refused("written(-1, 0, 0, 0)", UNKNOWN, x -> x.written(-1, 0, 0, 0));
        refused("written(2, 0, 0, 0)", UNKNOWN, x -> x.written(2, 0, 0, 0));
        refused("written(least, 0, 0, 0)", UNKNOWN, x -> x.written(LEAST, 0, 0, 0));
        refused("written(most, 0, 0, 0)", UNKNOWN, x -> x.written(MOST, 0, 0, 0));
    }

    static void promise15_lettersThatThereAreNot() {
        refused("written(0, -1, 0, 0)", UNKNOWN, x -> x.written(0, NONE, 0, 0));
        refused("written(0, 5, 0, 0)", UNKNOWN, x -> x.written(0, 5, 0, 0));
        refused("written(0, 12, 0, 0)", UNKNOWN, x -> x.written(0, 12, 0, 0));
        refused("written(0, least, 0, 0)", UNKNOWN, x -> x.written(0, LEAST, 0, 0));
        refused("written(0, most, 0, 0)", UNKNOWN, x -> x.written(0, MOST, 0, 0));
    }

    static void promise15_handsThatThereAreNot() {
        refused("written(0, 0, -1, 0)", UNKNOWN, x -> x.written(0, 0, -1, 0));
        refused("written(0, 0, 3, 0)", UNKNOWN, x -> x.written(0, 0, 3, 0));
        refused("written(0, 0, least, 0)", UNKNOWN, x -> x.written(0, 0, LEAST, 0));
        refused("written(0, 0, most, 0)", UNKNOWN, x -> x.written(0, 0, MOST, 0));
        refused("written(0, 0, 3, -1)", UNKNOWN, x -> x.written(0, 0, 3, NONE));
    }

    static void promise15_everyHour() {
        WeatherHand x = of(CALM + "p0 5 1;");
        due("how many", x.written(0, 0, 0, NONE), 96);
        due("the first", x.written(0, 0, 0, 0), 0);
        due("the last", x.written(0, 0, 0, 95), 95);
        due("one more", x.written(0, 0, 0, 96), NONE);
    }

    static void promise15_hour0Alone() {
        WeatherHand x = of(EDGES + "p0 0 1;");
        due("how many", x.written(0, 0, 0, NONE), 1);
        due("the first", x.written(0, 0, 0, 0), 0);
        due("one more", x.written(0, 0, 0, 1), NONE);
    }

    static void promise15_hour95Alone() {
        WeatherHand x = of(EDGES + "p0 95 1;");
        due("how many", x.written(0, 0, 0, NONE), 1);
        due("the first", x.written(0, 0, 0, 0), 95);
        due("one more", x.written(0, 0, 0, 1), NONE);
    }

    static void promise15_theOrderIsThatOfHours() {
        WeatherHand x = of(WINDY + "p0 50 1;");
        for (int i = 0; i < 12; i++) {
            due("the hour " + i, x.written(0, 0, 0, i), 2 + 8 * i);
        }
        due("one more", x.written(0, 0, 0, 12), NONE);
    }

    static void promise15_noHour() {
        WeatherHand x = of(WINDY + "h1 0 0;p0 0 1;p1 7 1;");
        due("how many of hand 1", x.written(0, 0, 1, NONE), 0);
        due("the first of hand 1", x.written(0, 0, 1, 0), NONE);
        due("how many of hand 0", x.written(1, 0, 0, NONE), 0);
        due("the first of hand 0", x.written(1, 0, 0, 0), NONE);
    }

    static void promise15_farBeyondTheLast() {
        WeatherHand x = of(CALM + "p0 5 1;");
        due("written(0, 0, 0, most)", x.written(0, 0, 0, MOST), NONE);
        due("written(0, 0, 0, 256)", x.written(0, 0, 0, 256), NONE);
    }

    static void promise15_belowNone() {
        WeatherHand x = of(CALM + "p0 5 1;");
        due("written(0, 0, 0, -2)", x.written(0, 0, 0, -2), NONE);
        due("written(0, 0, 0, least)", x.written(0, 0, 0, LEAST), NONE);
    }

    static void promise15_aForgedLetterByItsLook() {
        WeatherHand x = of(WINDY + "p0 0 1;");
        x.bottle(3);
        x.add(0, 0, 6, true);
        due("how many", x.written(0, 1, 0, NONE), 12);
        due("the first", x.written(0, 1, 0, 0), 3);
    }

    static void promise15_itChangesNothing() {
        changesNothing("written(0, 0, 0, -1)", x -> x.written(0, 0, 0, NONE));
        changesNothing("written(0, 0, 0, 0)", x -> x.written(0, 0, 0, 0));
    }
}
