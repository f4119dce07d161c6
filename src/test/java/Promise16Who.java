/** WHO of a LETTER: HANDS that would make its LOOK at some HOUR (a SET). */
public final class Promise16Who extends Boundary {
    public static void main(String[] args) {
        run(Promise16Who.class);
    }

    static void promise16_papersThatThereAreNot() {
        refused("who(-1, 0)", UNKNOWN, x -> x.who(-1, 0));
        refused("who(2, 0)", UNKNOWN, x -> x.who(2, 0));
        refused("who(least, 0)", UNKNOWN, x -> x.who(LEAST, 0));
        refused("who(most, 0)", UNKNOWN, x -> x.who(MOST, 0));
    }

    static void promise16_lettersThatThereAreNot() {
        refused("who(0, -1)", UNKNOWN, x -> x.who(0, NONE));
        refused("who(0, 5)", UNKNOWN, x -> x.who(0, 5));
        refused("who(0, 12)", UNKNOWN, x -> x.who(0, 12));
        refused("who(0, least)", UNKNOWN, x -> x.who(0, LEAST));
        refused("who(0, most)", UNKNOWN, x -> x.who(0, MOST));
    }

    static void promise16_anEmptyPaper() {
        WeatherHand x = of(CALM + "p0 0 1;");
        x.blot(0);
        due("who(0, 0)", x.who(0, 0), UNKNOWN);
    }

    static void promise16_oneHandAlone() {
        WeatherHand x = of(WINDY + "h1 0 0;p0 0 1;p1 7 1;");
        due("who(0, 0)", x.who(0, 0), 1);
        due("who(1, 0)", x.who(1, 0), 2);
    }

    static void promise16_allFourHands() {
        due("who(0, 0)", of("v0 0 12;h1 1 1;h1 1 1;h1 1 1;h1 1 1;p2 5 1;").who(0, 0), 15);
    }

    static void promise16_theFourthHandAlone() {
        due("who(0, 0)", of("v0 0 12;h1 1 1;h1 1 1;h1 1 1;h2 1 1;p3 5 1;").who(0, 0), 8);
    }

    static void promise16_atHour0Alone() {
        WeatherHand x = of(EDGES + "h0 8 0;p0 0 1;");
        due("who(0, 0)", x.who(0, 0), 1);
    }

    static void promise16_atHour95Alone() {
        WeatherHand x = of(EDGES + "h0 8 0;p0 95 1;");
        due("who(0, 0)", x.who(0, 0), 1);
    }

    static void promise16_atAnotherHourThanItsOwn() {
        // hand 1 leans by 1: it makes at 2 what hand 0 makes at 3
        due("who(0, 0)", of(WINDY + "h1 0 0;p0 3 1;").who(0, 0), 3);
    }

    static void promise16_aForgedLetterByItsLook() {
        WeatherHand x = of(WINDY + "h1 0 0;p0 3 1;");
        x.bottle(0);
        x.add(0, 0, 3, true);
        due("who(0, 1)", x.who(0, 1), 1);
    }

    static void promise16_itChangesNothing() {
        changesNothing("who(0, 0)", x -> x.who(0, 0));
    }
}
