/** PASSES: FORGED LETTERS that look as their HAND would have made them at the HOUR told; CAUGHT: which do not. */
public final class Promise23Forged extends Boundary {
    public static void main(String[] args) {
        run(Promise23Forged.class);
    }

    private static void forged(WeatherHand x, int p, int passes, int caught) {
        due("forged(" + p + ", 0)", x.forged(p, 0), passes);
        due("forged(" + p + ", 1)", x.forged(p, 1), caught);
    }

    private static WeatherHand allForged(int told) {
        WeatherHand x = of(WINDY + "p0 0 1;");
        x.blot(0);
        x.bottle(0);
        for (int k = 0; k < 12; k++) {
            x.add(0, 0, told, true);
        }
        return x;
    }

    static void promise23_papersThatThereAreNot() {
        refused("forged(-1, 0)", UNKNOWN, x -> x.forged(-1, 0));
        refused("forged(2, 0)", UNKNOWN, x -> x.forged(2, 0));
        refused("forged(least, 1)", UNKNOWN, x -> x.forged(LEAST, 1));
        refused("forged(most, 1)", UNKNOWN, x -> x.forged(MOST, 1));
    }

    static void promise23_whatOutside() {
        refused("forged(0, -1)", OUTSIDE, x -> x.forged(0, -1));
        refused("forged(0, 2)", OUTSIDE, x -> x.forged(0, 2));
        refused("forged(0, least)", OUTSIDE, x -> x.forged(0, LEAST));
        refused("forged(0, most)", OUTSIDE, x -> x.forged(0, MOST));
    }

    static void promise23_unknownComesAheadOfOutside() {
        refused("forged(2, 2)", UNKNOWN, x -> x.forged(2, 2));
        refused("forged(-1, -1)", UNKNOWN, x -> x.forged(-1, -1));
    }

    static void promise23_noForgedLetter() {
        forged(of(VALLEY), 0, 0, 0);
    }

    static void promise23_anEmptyPaper() {
        WeatherHand x = of(CALM + "p0 0 1;");
        x.blot(0);
        forged(x, 0, 0, 0);
    }

    static void promise23_allTwelvePass() {
        forged(allForged(8), 0, 12, 0);
        forged(allForged(0), 0, 12, 0);
    }

    static void promise23_allTwelveAreCaught() {
        forged(allForged(1), 0, 0, 4095);
    }

    static void promise23_theTwelfthAlone() {
        WeatherHand x = of(WINDY + "p0 0 11;");
        x.bottle(0);
        x.add(0, 0, 1, true);
        forged(x, 0, 0, 2048);
    }

    static void promise23_theFirstAlone() {
        WeatherHand x = of(WINDY + "p0 0 1;");
        x.blot(0);
        x.bottle(0);
        x.add(0, 0, 1, true);
        x.add(0, 0, 1, false);
        forged(x, 0, 0, 1);
    }

    static void promise23_airOfHour95ToldAsHour0() {
        WeatherHand x = of(EDGES + "p0 0 1;");
        x.bottle(95);
        x.add(0, 0, 0, true);
        x.add(0, 0, 95, true);
        forged(x, 0, 1, 2);
    }

    static void promise23_eachAtItsOwnAir() {
        WeatherHand x = of(WINDY + "p0 0 1;");
        x.bottle(1);
        x.add(0, 0, 9, true);
        x.bottle(2);
        x.add(0, 0, 9, true);
        x.bottle(NONE);
        x.add(0, 0, 9, false);
        forged(x, 0, 1, 4);
    }

    static void promise23_anotherPaperIsNotCounted() {
        WeatherHand x = of(WINDY + "p0 0 1;p0 0 1;");
        x.bottle(1);
        x.add(1, 0, 2, true);
        forged(x, 0, 0, 0);
        forged(x, 1, 0, 2);
    }

    static void promise23_blottedOnesAreGone() {
        WeatherHand x = allForged(1);
        x.blot(0);
        forged(x, 0, 0, 2047);
    }

    static void promise23_itChangesNothing() {
        changesNothing("forged(0, 0)", x -> x.forged(0, 0));
        changesNothing("forged(0, 1)", x -> x.forged(0, 1));
    }
}
