/** ADDED AT and CUTS: rows of LETTERS that a HAND could have written one an HOUR from some HOUR on. */
public final class Promise18AddedAt extends Boundary {
    public static void main(String[] args) {
        run(Promise18AddedAt.class);
    }

    private static void rows(WeatherHand x, int p, int h, int addedAt, int cuts) {
        due("addedAt(" + p + ", " + h + ", 0)", x.addedAt(p, h, 0), addedAt);
        due("addedAt(" + p + ", " + h + ", 1)", x.addedAt(p, h, 1), cuts);
    }

    /** A paper of hand 0 with letters at these hours. */
    private static WeatherHand at(String text, int... hours) {
        WeatherHand x = of(text + "p0 0 1;");
        x.blot(0);
        for (int t : hours) {
            x.add(0, 0, t, false);
        }
        return x;
    }

    static void promise18_papersThatThereAreNot() {
        refused("addedAt(-1, 0, 0)", UNKNOWN, x -> x.addedAt(-1, 0, 0));
        refused("addedAt(2, 0, 0)", UNKNOWN, x -> x.addedAt(2, 0, 0));
        refused("addedAt(least, 0, 1)", UNKNOWN, x -> x.addedAt(LEAST, 0, 1));
        refused("addedAt(most, 0, 1)", UNKNOWN, x -> x.addedAt(MOST, 0, 1));
    }

    static void promise18_handsThatThereAreNot() {
        refused("addedAt(0, -1, 0)", UNKNOWN, x -> x.addedAt(0, -1, 0));
        refused("addedAt(0, 3, 0)", UNKNOWN, x -> x.addedAt(0, 3, 0));
        refused("addedAt(0, least, 1)", UNKNOWN, x -> x.addedAt(0, LEAST, 1));
        refused("addedAt(0, most, 1)", UNKNOWN, x -> x.addedAt(0, MOST, 1));
    }

    static void promise18_whatOutside() {
        refused("addedAt(0, 0, -1)", OUTSIDE, x -> x.addedAt(0, 0, -1));
        refused("addedAt(0, 0, 2)", OUTSIDE, x -> x.addedAt(0, 0, 2));
        refused("addedAt(0, 0, least)", OUTSIDE, x -> x.addedAt(0, 0, LEAST));
        refused("addedAt(0, 0, most)", OUTSIDE, x -> x.addedAt(0, 0, MOST));
    }

    static void promise18_unknownComesAheadOfOutside() {
        refused("addedAt(2, 0, 2)", UNKNOWN, x -> x.addedAt(2, 0, 2));
        refused("addedAt(0, 3, 2)", UNKNOWN, x -> x.addedAt(0, 3, 2));
    }

    static void promise18_anEmptyPaper() {
        rows(at(WINDY), 0, 0, 0, 0);
    }

    static void promise18_oneLetter() {
        rows(at(WINDY, 5), 0, 0, 1, 1);
        rows(at(EDGES, 0), 0, 0, 1, 1);
        rows(at(EDGES, 95), 0, 0, 1, 1);
    }

    static void promise18_aFullPaperInOneRow() {
        rows(of(EDGES + "p0 84 12;"), 0, 0, 12, 1);
        rows(of(EDGES + "p0 0 12;"), 0, 0, 12, 1);
    }

    static void promise18_aFullPaperInTwelveRows() {
        rows(at(WINDY, 0, 0, 0, 0, 0, 0, 0, 0, 0, 0, 0, 0), 0, 0, 1, 12);
    }

    static void promise18_noRowGoesRoundFrom95To0() {
        rows(at(EDGES, 95, 0), 0, 0, 1, 2);
        rows(at(EDGES, 94, 95, 0, 1), 0, 0, 2, 2);
    }

    static void promise18_aRowThatWouldNeedHour96() {
        // both look as at 95 alone, and behind 95 there is no hour
        rows(at(EDGES, 95, 95), 0, 0, 1, 2);
    }

    static void promise18_noneOfTheFirst() {
        WeatherHand x = of(WINDY + "h1 0 0;p0 0 1;");
        x.add(0, 0, 1, false);
        x.add(0, 0, 2, false);
        rows(x, 0, 1, 0, NONE);
    }

    static void promise18_theLastCannotBeMade() {
        WeatherHand x = of(WINDY + "h1 0 0;p0 0 3;");
        x.add(0, 1, 7, false);
        rows(x, 0, 0, 3, NONE);
    }

    static void promise18_aMiddleOneCannotBeMade() {
        WeatherHand x = of(WINDY + "h1 0 0;p0 0 2;");
        x.add(0, 1, 7, false);
        x.add(0, 0, 2, false);
        rows(x, 0, 0, 2, NONE);
    }

    static void promise18_addedAtBeginsWithTheFirstLetter() {
        rows(at(WINDY, 3, 1, 2, 3, 4), 0, 0, 1, 2);
    }

    static void promise18_fewestRows() {
        rows(at(WINDY, 0, 1, 2, 2, 3), 0, 0, 3, 2);
        rows(at(WINDY, 0, 1, 1, 2, 2, 3), 0, 0, 2, 3);
    }

    static void promise18_aRowGoesOnWhereTheLooksDo() {
        // the hours told are 7 and 80, but 8 and 80 look alike
        rows(at(WINDY, 7, 80), 0, 0, 2, 1);
    }

    static void promise18_aForgedLetterByItsLook() {
        WeatherHand x = of(WINDY + "p0 3 1;");
        x.bottle(4);
        x.add(0, 0, 90, true);
        rows(x, 0, 0, 2, 1);
        x.add(0, 0, 5, true);
        rows(x, 0, 0, 2, 2);
    }

    static void promise18_anotherHandThanItsOwn() {
        rows(of(WINDY + "h1 0 0;p0 3 3;"), 0, 1, 3, 1);
    }

    static void promise18_itChangesNothing() {
        changesNothing("addedAt(0, 0, 0)", x -> x.addedAt(0, 0, 0));
        changesNothing("addedAt(0, 0, 1)", x -> x.addedAt(0, 0, 1));
    }
}
