/** ADDED: a LETTER more behind a PAPER by a HAND at an HOUR, from the BOTTLE or not. */
public final class Promise09Add extends Boundary {
    public static void main(String[] args) {
        run(Promise09Add.class);
    }

    private static WeatherHand fullPaper() {
        WeatherHand x = of(VALLEY);
        fill(x, 0, 95, 12);
        return x;
    }

    private static WeatherHand fullPaperAndBottle() {
        WeatherHand x = fullPaper();
        x.bottle(0);
        return x;
    }

    static void promise09_papersBelow0() {
        refused("add(-1, 0, 0, false)", UNKNOWN, x -> x.add(-1, 0, 0, false));
        refused("add(least, 0, 0, true)", UNKNOWN, x -> x.add(LEAST, 0, 0, true));
    }

    static void promise09_papersBeyondTheLast() {
        refused("add(2, 0, 0, false)", UNKNOWN, x -> x.add(2, 0, 0, false));
        refused("add(most, 0, 0, true)", UNKNOWN, x -> x.add(MOST, 0, 0, true));
    }

    static void promise09_handsBelow0() {
        refused("add(0, -1, 0, false)", UNKNOWN, x -> x.add(0, -1, 0, false));
        refused("add(0, least, 0, true)", UNKNOWN, x -> x.add(0, LEAST, 0, true));
    }

    static void promise09_handsBeyondTheLast() {
        refused("add(0, 3, 0, false)", UNKNOWN, x -> x.add(0, 3, 0, false));
        refused("add(0, most, 0, true)", UNKNOWN, x -> x.add(0, MOST, 0, true));
    }

    static void promise09_hoursBelow0() {
        refused("add(0, 0, -1, false)", OUTSIDE, x -> x.add(0, 0, -1, false));
        refused("add(0, 0, least, true)", OUTSIDE, x -> x.add(0, 0, LEAST, true));
    }

    static void promise09_hoursAbove95() {
        refused("add(0, 0, 96, false)", OUTSIDE, x -> x.add(0, 0, 96, false));
        refused("add(0, 0, most, true)", OUTSIDE, x -> x.add(0, 0, MOST, true));
    }

    static void promise09_hours0And95() {
        WeatherHand x = of(VALLEY);
        due("add(0, 0, 0, false)", x.add(0, 0, 0, false), 5);
        due("its hour", x.letter(0, 4, 1), 0);
        due("add(0, 0, 95, false)", x.add(0, 0, 95, false), 6);
        due("its hour", x.letter(0, 5, 1), 95);
    }

    static void promise09_anEmptyBottleIsNot() {
        refused(() -> of(VALLEY), "add(0, 0, 0, true)", NOT, x -> x.add(0, 0, 0, true));
    }

    static void promise09_aBottleLetOutIsNot() {
        WeatherHand x = of(VALLEY);
        x.bottle(0);
        x.bottle(NONE);
        due("add(0, 0, 0, true)", x.add(0, 0, 0, true), NOT);
    }

    static void promise09_anEmptyBottleIsNoMatterIfNotAskedFor() {
        due("add(0, 0, 0, false)", of(VALLEY).add(0, 0, 0, false), 5);
    }

    static void promise09_airOfHour0() {
        WeatherHand x = of(VALLEY);
        x.bottle(0);
        due("add(0, 0, 95, true)", x.add(0, 0, 95, true), 5);
        due("it is forged", x.letter(0, 4, 4), 1);
        due("it looks as at 0", x.letter(0, 4, 0), x.look(0, 0));
    }

    static void promise09_airOfHour95() {
        WeatherHand x = of(VALLEY);
        x.bottle(95);
        due("add(0, 0, 0, true)", x.add(0, 0, 0, true), 5);
        due("it is forged", x.letter(0, 4, 4), 1);
        due("it looks as at 95", x.letter(0, 4, 0), x.look(0, 95));
    }

    static void promise09_fromTheBottleAtItsOwnHourIsForgedToo() {
        WeatherHand x = of(VALLEY);
        x.bottle(7);
        x.add(0, 0, 7, true);
        due("letter(0, 4, 4)", x.letter(0, 4, 4), 1);
    }

    static void promise09_airThatIsNotAskedForStays() {
        WeatherHand x = of(VALLEY);
        x.bottle(7);
        due("add(0, 0, 95, false)", x.add(0, 0, 95, false), 5);
        due("it is not forged", x.letter(0, 4, 4), 0);
        due("it looks as at 95", x.letter(0, 4, 0), x.look(0, 95));
        due("told(7)", x.told(7), 7);
    }

    static void promise09_theBottleKeepsItsAir() {
        WeatherHand x = of(VALLEY);
        x.bottle(7);
        due("the first", x.add(0, 0, 95, true), 5);
        due("told(7)", x.told(7), 7);
        due("the second", x.add(0, 0, 95, true), 6);
        due("told(7)", x.told(7), 7);
    }

    static void promise09_laterAirChangesNoLetter() {
        WeatherHand x = of(WINDY + "p0 0 1;");
        x.bottle(3);
        x.add(0, 0, 0, true);
        x.bottle(4);
        due("letter(0, 1, 0)", x.letter(0, 1, 0), 3000);
        x.bottle(NONE);
        due("letter(0, 1, 0) behind the air", x.letter(0, 1, 0), 3000);
        due("letter(0, 1, 4) behind the air", x.letter(0, 1, 4), 1);
    }

    static void promise09_theTwelfthIsTaken() {
        WeatherHand x = of(VALLEY);
        for (int k = 5; k <= 12; k++) {
            due("add the letter " + k, x.add(0, 0, 95, false), k);
        }
        due("add to another paper", x.add(1, 0, 95, false), 3);
    }

    static void promise09_theThirteenthIsFull() {
        refused(Promise09Add::fullPaper, "add the letter 13", FULL, x -> x.add(0, 0, 95, false));
        refused(Promise09Add::fullPaperAndBottle, "add the letter 13 from the bottle", FULL, x -> x.add(0, 0, 95, true));
    }

    static void promise09_thereIsPlaceAgainBehindABlot() {
        WeatherHand x = fullPaper();
        x.blot(0);
        due("add the letter 12 again", x.add(0, 0, 95, false), 12);
    }

    static void promise09_unknownComesAheadOfOutside() {
        refused("add(2, 0, 96, false)", UNKNOWN, x -> x.add(2, 0, 96, false));
        refused("add(0, 3, 96, false)", UNKNOWN, x -> x.add(0, 3, 96, false));
        refused(Promise09Add::fullPaper, "add(0, 3, 96, true)", UNKNOWN, x -> x.add(0, 3, 96, true));
    }

    static void promise09_outsideComesAheadOfNot() {
        refused(() -> of(VALLEY), "add(0, 0, 96, true)", OUTSIDE, x -> x.add(0, 0, 96, true));
    }

    static void promise09_outsideComesAheadOfFull() {
        refused(Promise09Add::fullPaper, "add(0, 0, 96, false)", OUTSIDE, x -> x.add(0, 0, 96, false));
    }

    static void promise09_notComesAheadOfFull() {
        refused(Promise09Add::fullPaper, "add(0, 0, 0, true)", NOT, x -> x.add(0, 0, 0, true));
    }

    static void promise09_itIsADeed() {
        WeatherHand x = of(VALLEY);
        x.add(0, 0, 0, false);
        due("told(10)", x.told(10), 1);
        due("undo(1)", x.undo(1), 6);
    }
}
