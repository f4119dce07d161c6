/** "An entry behind THE BOOK: how many. UNKNOWN (a PAPER; no place 0 .. 11), OUTSIDE, FULL (20)." */
public final class Promise27Write extends Boundary {
    public static void main(String[] args) {
        run(Promise27Write.class);
    }

    private static WeatherHand fullBook() {
        WeatherHand x = of(VALLEY);
        for (int k = 0; k < 20; k++) {
            x.write(0, 0, 3022);
        }
        return x;
    }

    static void promise27_papersThatThereAreNot() {
        refused("write(-1, 0, 0)", UNKNOWN, x -> x.write(-1, 0, 0));
        refused("write(2, 0, 0)", UNKNOWN, x -> x.write(2, 0, 0));
        refused("write(least, 0, 0)", UNKNOWN, x -> x.write(LEAST, 0, 0));
        refused("write(most, 0, 0)", UNKNOWN, x -> x.write(MOST, 0, 0));
    }

    static void promise27_placesBelow0() {
        refused("write(0, -1, 0)", UNKNOWN, x -> x.write(0, -1, 0));
        refused("write(0, least, 0)", UNKNOWN, x -> x.write(0, LEAST, 0));
    }

    static void promise27_placesAbove11() {
        refused("write(0, 12, 0)", UNKNOWN, x -> x.write(0, 12, 0));
        refused("write(0, most, 0)", UNKNOWN, x -> x.write(0, MOST, 0));
    }

    static void promise27_places0And11() {
        WeatherHand x = of(VALLEY);
        due("write(0, 0, 0)", x.write(0, 0, 0), 1);
        due("write(0, 11, 0)", x.write(0, 11, 0), 2);
    }

    static void promise27_aPlaceWithoutALetter() {
        due("write(1, 2, 0)", of(VALLEY).write(1, 2, 0), 1);
    }

    static void promise27_looksBelow0() {
        refused("write(0, 0, -1)", OUTSIDE, x -> x.write(0, 0, -1));
        refused("write(0, 0, least)", OUTSIDE, x -> x.write(0, 0, LEAST));
    }

    static void promise27_looksAbove9999() {
        refused("write(0, 0, 10000)", OUTSIDE, x -> x.write(0, 0, 10000));
        refused("write(0, 0, most)", OUTSIDE, x -> x.write(0, 0, MOST));
    }

    static void promise27_looks0And9999() {
        WeatherHand x = of(VALLEY);
        due("write(0, 0, 0)", x.write(0, 0, 0), 1);
        due("write(0, 0, 9999)", x.write(0, 0, 9999), 2);
    }

    static void promise27_the20thIsTaken() {
        WeatherHand x = of(VALLEY);
        for (int k = 1; k <= 20; k++) {
            due("write the entry " + k, x.write(0, 0, 0), k);
        }
        due("told(9)", x.told(9), 20);
    }

    static void promise27_the21stIsFull() {
        refused(Promise27Write::fullBook, "write the entry 21", FULL, x -> x.write(0, 0, 0));
    }

    static void promise27_unknownComesAheadOfOutside() {
        refused("write(2, 0, 10000)", UNKNOWN, x -> x.write(2, 0, 10000));
        refused("write(0, 12, 10000)", UNKNOWN, x -> x.write(0, 12, 10000));
    }

    static void promise27_unknownComesAheadOfFull() {
        refused(Promise27Write::fullBook, "write(2, 0, 0)", UNKNOWN, x -> x.write(2, 0, 0));
        refused(Promise27Write::fullBook, "write(0, 12, 0)", UNKNOWN, x -> x.write(0, 12, 0));
    }

    static void promise27_outsideComesAheadOfFull() {
        refused(Promise27Write::fullBook, "write(0, 0, 10000)", OUTSIDE, x -> x.write(0, 0, 10000));
        refused(Promise27Write::fullBook, "write(0, 0, -1)", OUTSIDE, x -> x.write(0, 0, -1));
    }

    static void promise27_oneLetterTwice() {
        WeatherHand x = of(VALLEY);
        x.write(0, 0, 3022);
        due("write(0, 0, 3022) again", x.write(0, 0, 3022), 2);
    }

    static void promise27_aTornBookBeginsAgain() {
        WeatherHand x = fullBook();
        x.tear();
        due("write(0, 0, 0)", x.write(0, 0, 0), 1);
    }

    static void promise27_itIsNoDeed() {
        WeatherHand x = busy();
        x.write(0, 1, 0);
        due("told(10)", x.told(10), 3);
    }
}
