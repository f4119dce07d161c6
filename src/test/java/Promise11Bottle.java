/** "AIR of an HOUR comes into the BOTTLE (NONE: it is let out): what was in it (NONE). OUTSIDE, NOT: no VALLEY." */
public final class Promise11Bottle extends Boundary {
    public static void main(String[] args) {
        run(Promise11Bottle.class);
    }

    static void promise11_hoursBelowNone() {
        refused("bottle(-2)", OUTSIDE, x -> x.bottle(-2));
        refused("bottle(least)", OUTSIDE, x -> x.bottle(LEAST));
    }

    static void promise11_hoursAbove95() {
        refused("bottle(96)", OUTSIDE, x -> x.bottle(96));
        refused("bottle(most)", OUTSIDE, x -> x.bottle(MOST));
    }

    static void promise11_notWithoutAValley() {
        refused(WeatherHand::new, "bottle(0)", NOT, x -> x.bottle(0));
        refused(WeatherHand::new, "bottle(95)", NOT, x -> x.bottle(95));
        refused(WeatherHand::new, "bottle(-1)", NOT, x -> x.bottle(NONE));
    }

    static void promise11_outsideComesAheadOfNot() {
        refused(WeatherHand::new, "bottle(96)", OUTSIDE, x -> x.bottle(96));
        refused(WeatherHand::new, "bottle(-2)", OUTSIDE, x -> x.bottle(-2));
    }

    static void promise11_itNeedsNoHandAndNoPaper() {
        due("bottle(0)", of("v0 0 0;").bottle(0), NONE);
    }

    static void promise11_hours0And95() {
        WeatherHand x = of(VALLEY);
        due("bottle(0) into an empty one", x.bottle(0), NONE);
        due("told(7)", x.told(7), 0);
        due("bottle(95)", x.bottle(95), 0);
        due("told(7)", x.told(7), 95);
        due("bottle(1)", x.bottle(1), 95);
    }

    static void promise11_oneAtATime() {
        WeatherHand x = of(VALLEY);
        x.bottle(4);
        x.bottle(5);
        due("bottle(-1)", x.bottle(NONE), 5);
        due("bottle(-1) again", x.bottle(NONE), NONE);
    }

    static void promise11_noneLetsItOut() {
        WeatherHand x = of(VALLEY);
        x.bottle(40);
        due("bottle(-1)", x.bottle(NONE), 40);
        due("told(7)", x.told(7), NONE);
        due("bottle(3)", x.bottle(3), NONE);
    }

    static void promise11_anEmptyOneCanBeLetOut() {
        due("bottle(-1)", of(VALLEY).bottle(NONE), NONE);
    }

    static void promise11_theSameHourAgain() {
        WeatherHand x = of(VALLEY);
        x.bottle(8);
        due("bottle(8)", x.bottle(8), 8);
        due("told(7)", x.told(7), 8);
    }

    static void promise11_itIsADeed() {
        WeatherHand x = of(VALLEY);
        x.bottle(8);
        x.bottle(9);
        x.bottle(NONE);
        due("told(10)", x.told(10), 3);
        x.undo(1);
        due("told(7)", x.told(7), 9);
        x.undo(1);
        due("told(7)", x.told(7), 8);
        x.undo(1);
        due("told(7)", x.told(7), NONE);
    }

    static void promise11_itIsADeedWhateverWasInIt() {
        WeatherHand x = of(VALLEY);
        x.bottle(NONE);
        due("told(10) behind an empty one let out", x.told(10), 1);
        x.bottle(8);
        x.bottle(8);
        due("told(10) behind the same hour again", x.told(10), 3);
        x.undo(1);
        due("told(7)", x.told(7), 8);
        x.undo(1);
        due("told(7)", x.told(7), NONE);
        due("told(10)", x.told(10), 1);
    }
}
