/** WIND, DAMP, LIGHT at an HOUR, with their bounds and where they wrap around. */
public final class Promise06Weather extends Boundary {
    public static void main(String[] args) {
        run(Promise06Weather.class);
    }

    private static void each(String text, int what, int[] hours, int... want) {
        WeatherHand x = of(text);
        for (int k = 0; k < hours.length; k++) {
            due("weather(" + hours[k] + ", " + what + ") of " + text, x.weather(hours[k], what), want[k]);
        }
    }

    private static int[] at(int... hours) {
        return hours;
    }

    static void promise06_hoursBelow0() {
        refused("weather(-1, 0)", OUTSIDE, x -> x.weather(-1, 0));
        refused("weather(least, 1)", OUTSIDE, x -> x.weather(LEAST, 1));
    }

    static void promise06_hoursAbove95() {
        refused("weather(96, 0)", OUTSIDE, x -> x.weather(96, 0));
        refused("weather(most, 1)", OUTSIDE, x -> x.weather(MOST, 1));
    }

    static void promise06_whatBelow0() {
        refused("weather(0, -1)", OUTSIDE, x -> x.weather(0, -1));
        refused("weather(0, least)", OUTSIDE, x -> x.weather(0, LEAST));
    }

    static void promise06_whatAbove2() {
        refused("weather(0, 3)", OUTSIDE, x -> x.weather(0, 3));
        refused("weather(0, most)", OUTSIDE, x -> x.weather(0, MOST));
    }

    static void promise06_notWithoutAValley() {
        for (int what = 0; what <= 2; what++) {
            int asked = what;
            refused(WeatherHand::new, "weather(0, " + what + ")", NOT, x -> x.weather(0, asked));
            refused(WeatherHand::new, "weather(95, " + what + ")", NOT, x -> x.weather(95, asked));
        }
    }

    static void promise06_outsideComesAheadOfNot() {
        WeatherHand x = new WeatherHand();
        due("weather(-1, 0)", x.weather(-1, 0), OUTSIDE);
        due("weather(96, 0)", x.weather(96, 0), OUTSIDE);
        due("weather(0, -1)", x.weather(0, -1), OUTSIDE);
        due("weather(0, 3)", x.weather(0, 3), OUTSIDE);
    }

    static void promise06_windLeavesOverBy8() {
        each("v1 0 0;", 0, at(0, 1, 7, 8, 9, 15, 16, 95), 0, 1, 7, 0, 1, 7, 0, 7);
        each("v7 0 0;", 0, at(0, 1, 2, 8, 95), 0, 7, 6, 0, 1);
    }

    static void promise06_windThatNeverTurns() {
        each("v0 0 0;", 0, at(0, 1, 95), 0, 0, 0);
    }

    static void promise06_windGoesOnFromDayToDay() {
        each("v3 0 0;", 0, at(11, 12, 95), 1, 4, 5);
    }

    static void promise06_lightInTheFirstHoursOfTheDay() {
        each("v0 0 5;", 2, at(0, 4, 5, 11, 12, 16, 17, 84, 88, 89, 95), 1, 1, 0, 0, 1, 1, 0, 1, 1, 0, 0);
    }

    static void promise06_noLightAtAll() {
        each("v0 0 0;", 2, at(0, 11, 12, 95), 0, 0, 0, 0);
    }

    static void promise06_lightOfAllTwelveHours() {
        each("v0 0 12;", 2, at(0, 11, 12, 95), 1, 1, 1, 1);
    }

    static void promise06_lightOfOneHour() {
        each("v0 0 1;", 2, at(0, 1, 11, 12, 13), 1, 0, 0, 1, 0);
    }

    static void promise06_darkHoursCountTheHourItself() {
        each("v0 0 9;", 1, at(8, 9, 10, 11), 0, 1, 2, 3);
        each("v0 0 11;", 1, at(10, 11), 0, 1);
    }

    static void promise06_darkHoursCountFromTheDaysBegin() {
        each("v0 0 9;", 1, at(11, 12, 20, 21, 95), 3, 0, 0, 1, 3);
    }

    static void promise06_darkFromTheFirstHour() {
        each("v0 0 0;", 1, at(0, 1, 11, 12), 1, 2, 12, 1);
    }

    static void promise06_noDarkHour() {
        each("v0 3 12;", 1, at(0, 11, 95), 3, 3, 3);
    }

    static void promise06_dampIs19AtMost() {
        each("v0 9 0;d8;", 1, at(0, 1, 2, 11), 18, 19, 19, 19);
        each("v0 9 0;d9;", 1, at(0, 11, 95), 19, 19, 19);
        each("v0 9 12;d9;", 1, at(0), 18);
    }

    static void promise06_rainOfADayWrapsAround() {
        each("v0 0 12;d1,2,3;", 1, at(0, 11, 12, 23, 24, 35, 36, 84, 95), 1, 1, 2, 2, 3, 3, 1, 2, 2);
    }

    static void promise06_oneRainForAllDays() {
        each("v0 0 12;d7;", 1, at(0, 12, 84, 95), 7, 7, 7, 7);
    }

    static void promise06_eightRainsOneADay() {
        each("v0 0 12;d1,2,3,4,5,6,7,8;", 1, at(0, 12, 24, 36, 48, 60, 72, 83, 84, 95), 1, 2, 3, 4, 5, 6, 7, 7, 8, 8);
    }

    static void promise06_rainUntoldIs0() {
        each("v0 5 12;", 1, at(0, 95), 5, 5);
    }

    static void promise06_itChangesNothing() {
        changesNothing("weather(0, 1)", x -> x.weather(0, 1));
    }
}
