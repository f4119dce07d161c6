/** MEASURED: a LETTER of a PAPER is looked at (its place stays so till tear()): how many places of the PAPER were. */
public final class Promise26Measure extends Boundary {
    public static void main(String[] args) {
        run(Promise26Measure.class);
    }

    static void promise26_papersThatThereAreNot() {
        refused("measure(-1, 0)", UNKNOWN, x -> x.measure(-1, 0));
        refused("measure(2, 0)", UNKNOWN, x -> x.measure(2, 0));
        refused("measure(least, 0)", UNKNOWN, x -> x.measure(LEAST, 0));
        refused("measure(most, 0)", UNKNOWN, x -> x.measure(MOST, 0));
    }

    static void promise26_lettersThatThereAreNot() {
        refused("measure(0, -1)", UNKNOWN, x -> x.measure(0, NONE));
        refused("measure(0, 5)", UNKNOWN, x -> x.measure(0, 5));
        refused("measure(0, 12)", UNKNOWN, x -> x.measure(0, 12));
        refused("measure(0, 32)", UNKNOWN, x -> x.measure(0, 32));
        refused("measure(0, least)", UNKNOWN, x -> x.measure(0, LEAST));
        refused("measure(0, most)", UNKNOWN, x -> x.measure(0, MOST));
    }

    static void promise26_anEmptyPaper() {
        WeatherHand x = of(CALM + "p0 0 1;");
        x.blot(0);
        due("measure(0, 0)", x.measure(0, 0), UNKNOWN);
    }

    static void promise26_theFirstAndTheLast() {
        WeatherHand x = of(VALLEY);
        due("measure(0, 0)", x.measure(0, 0), 1);
        due("measure(0, 3)", x.measure(0, 3), 2);
        due("letter(0, 0, 3)", x.letter(0, 0, 3), 1);
        due("letter(0, 3, 3)", x.letter(0, 3, 3), 1);
        due("letter(0, 1, 3)", x.letter(0, 1, 3), 0);
    }

    static void promise26_allTwelvePlaces() {
        WeatherHand x = of(CALM + "p0 0 12;");
        for (int l = 0; l < 12; l++) {
            due("measure(0, " + l + ")", x.measure(0, l), l + 1);
        }
        due("measure(0, 11) again", x.measure(0, 11), 12);
    }

    static void promise26_aPlaceTwiceIsOne() {
        WeatherHand x = of(VALLEY);
        due("measure(0, 2)", x.measure(0, 2), 1);
        due("measure(0, 2) again", x.measure(0, 2), 1);
    }

    static void promise26_eachPaperForItself() {
        WeatherHand x = of(CALM + "p0 0 1;p0 0 1;p0 0 1;p0 0 1;");
        for (int p = 0; p < 4; p++) {
            due("measure(" + p + ", 0)", x.measure(p, 0), 1);
        }
    }

    static void promise26_thePlaceStaysWhenItsLetterGoes() {
        WeatherHand x = of(VALLEY);
        x.measure(0, 3);
        x.blot(0);
        due("measure(0, 3) blotted", x.measure(0, 3), UNKNOWN);
        due("measure(0, 0)", x.measure(0, 0), 2);
        x.add(0, 1, 50, false);
        due("letter(0, 3, 3) of another letter", x.letter(0, 3, 3), 1);
        due("measure(0, 3)", x.measure(0, 3), 2);
    }

    static void promise26_thePlaceStaysBehindUndoAndGoBack() {
        WeatherHand x = of(VALLEY);
        x.keep(0);
        x.add(0, 0, 0, false);
        x.measure(0, 4);
        x.undo(1);
        due("measure(0, 0) behind undo", x.measure(0, 0), 2);
        x.goBack(0);
        due("letter(0, 0, 3) behind goBack", x.letter(0, 0, 3), 1);
        due("measure(0, 1) behind goBack", x.measure(0, 1), 3);
    }

    static void promise26_tillTear() {
        WeatherHand x = of(VALLEY);
        x.measure(0, 0);
        x.measure(0, 1);
        x.tear();
        due("letter(0, 0, 3)", x.letter(0, 0, 3), 0);
        due("measure(0, 1)", x.measure(0, 1), 1);
    }

    static void promise26_aForgedLetterToo() {
        WeatherHand x = of(VALLEY);
        x.bottle(0);
        x.add(0, 0, 50, true);
        due("measure(0, 4)", x.measure(0, 4), 1);
    }

    static void promise26_itIsNoDeed() {
        WeatherHand x = busy();
        x.measure(0, 1);
        due("told(10)", x.told(10), 3);
    }
}
