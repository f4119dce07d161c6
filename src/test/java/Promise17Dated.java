/** DATED: HOURS from which a HAND would write a whole PAPER one LETTER an HOUR (all at 95 or before), as it is. */
public final class Promise17Dated extends Boundary {
    public static void main(String[] args) {
        run(Promise17Dated.class);
    }

    private static void dates(WeatherHand x, int p, int h, int many, int first, int last) {
        due("dated(" + p + ", " + h + ", 0)", x.dated(p, h, 0), many);
        due("dated(" + p + ", " + h + ", 1)", x.dated(p, h, 1), first);
        due("dated(" + p + ", " + h + ", 2)", x.dated(p, h, 2), last);
    }

    static void promise17_papersThatThereAreNot() {
        refused("dated(-1, 0, 0)", UNKNOWN, x -> x.dated(-1, 0, 0));
        refused("dated(2, 0, 0)", UNKNOWN, x -> x.dated(2, 0, 0));
        refused("dated(least, 0, 0)", UNKNOWN, x -> x.dated(LEAST, 0, 0));
        refused("dated(most, 0, 0)", UNKNOWN, x -> x.dated(MOST, 0, 0));
    }

    static void promise17_handsThatThereAreNot() {
        refused("dated(0, -1, 0)", UNKNOWN, x -> x.dated(0, -1, 0));
        refused("dated(0, 3, 0)", UNKNOWN, x -> x.dated(0, 3, 0));
        refused("dated(0, least, 0)", UNKNOWN, x -> x.dated(0, LEAST, 0));
        refused("dated(0, most, 0)", UNKNOWN, x -> x.dated(0, MOST, 0));
    }

    static void promise17_whatOutside() {
        refused("dated(0, 0, -1)", OUTSIDE, x -> x.dated(0, 0, -1));
        refused("dated(0, 0, 3)", OUTSIDE, x -> x.dated(0, 0, 3));
        refused("dated(0, 0, least)", OUTSIDE, x -> x.dated(0, 0, LEAST));
        refused("dated(0, 0, most)", OUTSIDE, x -> x.dated(0, 0, MOST));
    }

    static void promise17_unknownComesAheadOfOutside() {
        refused("dated(2, 0, 3)", UNKNOWN, x -> x.dated(2, 0, 3));
        refused("dated(0, 3, 3)", UNKNOWN, x -> x.dated(0, 3, 3));
    }

    static void promise17_aPaperOfOneLetter() {
        dates(of(CALM + "p0 5 1;"), 0, 0, 96, 0, 95);
    }

    static void promise17_aFullPaperEndsAt95OrBefore() {
        dates(of(CALM + "p0 5 12;"), 0, 0, 85, 0, 84);
    }

    static void promise17_anEmptyPaperFitsEverywhere() {
        WeatherHand x = of(CALM + "p0 5 1;");
        x.blot(0);
        dates(x, 0, 0, 96, 0, 95);
    }

    static void promise17_hour0Alone() {
        dates(of(EDGES + "p0 0 1;"), 0, 0, 1, 0, 0);
    }

    static void promise17_hour95Alone() {
        dates(of(EDGES + "p0 95 1;"), 0, 0, 1, 95, 95);
    }

    static void promise17_noRowGoesRoundFrom95To0() {
        WeatherHand x = of(EDGES + "p0 95 1;");
        x.add(0, 0, 0, false);
        dates(x, 0, 0, 0, NONE, NONE);
    }

    static void promise17_theLastRowThatWouldNeedHour96() {
        // 7000, 0: from 7, 15 .. 87; hour 95 makes 7000 too, but there is none behind it
        dates(of(WINDY + "p0 7 2;"), 0, 0, 11, 7, 87);
    }

    static void promise17_aRowThatEndsJustAt95() {
        dates(of(WINDY + "p0 6 2;"), 0, 0, 12, 6, 94);
        dates(of(EDGES + "p0 84 12;"), 0, 0, 1, 84, 84);
    }

    static void promise17_noHour() {
        dates(of(WINDY + "h1 0 0;p0 0 1;"), 0, 1, 0, NONE, NONE);
    }

    static void promise17_theWholePaper() {
        // the first twelve letters are a row, but for the last
        WeatherHand x = of(WINDY + "p0 0 11;");
        dates(x, 0, 0, 11, 0, 80);
        x.add(0, 0, 12, false);
        dates(x, 0, 0, 0, NONE, NONE);
    }

    static void promise17_anotherHandThanItsOwn() {
        dates(of(WINDY + "h1 0 0;p0 3 2;"), 0, 1, 12, 2, 90);
    }

    static void promise17_asItIsWhateverHourIsTold() {
        // a letter of 3, then one told to be of 90 from air of 4
        WeatherHand x = of(WINDY + "p0 3 1;");
        x.bottle(4);
        x.add(0, 0, 90, true);
        dates(x, 0, 0, 12, 3, 91);
    }

    static void promise17_itChangesNothing() {
        changesNothing("dated(0, 0, 0)", x -> x.dated(0, 0, 0));
    }
}
