/** "0 1 there is a VALLEY, 0 not, 1 W, 2 D, 3 L, 4 HANDS, 5 PAPERS, .. 10 how many can be undone. OUTSIDE." */
public final class Promise05Told extends Boundary {
    public static void main(String[] args) {
        run(Promise05Told.class);
    }

    static void promise05_belowTheFirst() {
        refused("told(-1)", OUTSIDE, x -> x.told(-1));
        refused("told(least)", OUTSIDE, x -> x.told(LEAST));
    }

    static void promise05_aboveTheLast() {
        refused("told(11)", OUTSIDE, x -> x.told(11));
        refused("told(most)", OUTSIDE, x -> x.told(MOST));
    }

    static void promise05_outsideWithoutAValleyToo() {
        due("told(-1)", new WeatherHand().told(-1), OUTSIDE);
        due("told(11)", new WeatherHand().told(11), OUTSIDE);
    }

    static void promise05_thereIsAValleyOrNot() {
        WeatherHand x = new WeatherHand();
        due("told(0) of a new object", x.told(0), 0);
        feed(x, "v0 0 0;");
        due("told(0) of a text not read yet", x.told(0), 0);
        x.valley();
        due("told(0) of the least valley", x.told(0), 1);
        x.valley();
        due("told(0) of an empty text", x.told(0), 0);
    }

    static void promise05_eachOfTheValley() {
        WeatherHand x = of(VALLEY);
        due("told(1)", x.told(1), 3);
        due("told(2)", x.told(2), 2);
        due("told(3)", x.told(3), 10);
        due("told(4)", x.told(4), 3);
        due("told(5)", x.told(5), 2);
    }

    static void promise05_lettersOfTheText() {
        WeatherHand x = of(VALLEY);
        due("told(6) of an empty text", x.told(6), 0);
        feed(x, "v".repeat(229));
        due("told(6) one short of full", x.told(6), 229);
        feed(x, "vv");
        due("told(6) of a full text", x.told(6), 230);
        x.valley();
        due("told(6) behind a fault", x.told(6), 0);
    }

    static void promise05_theBottle() {
        WeatherHand x = of(VALLEY);
        due("told(7) of an empty one", x.told(7), NONE);
        x.bottle(0);
        due("told(7) of hour 0", x.told(7), 0);
        x.bottle(95);
        due("told(7) of hour 95", x.told(7), 95);
        x.bottle(NONE);
        due("told(7) let out", x.told(7), NONE);
    }

    static void promise05_lettersOfAllPapers() {
        WeatherHand x = of(CALM + "p0 0 12;p0 0 12;p0 0 12;p0 0 12;");
        due("told(8) of full papers", x.told(8), 48);
        for (int p = 0; p < 4; p++) {
            empty(x, p);
        }
        due("told(8) of empty papers", x.told(8), 0);
        due("told(5) of empty papers", x.told(5), 4);
    }

    static void promise05_entriesOfTheBook() {
        WeatherHand x = of(VALLEY);
        due("told(9) of none", x.told(9), 0);
        for (int k = 0; k < 21; k++) {
            x.write(0, 0, 0);
        }
        due("told(9) of a full one", x.told(9), 20);
    }

    static void promise05_howManyCanBeUndone() {
        WeatherHand x = of(VALLEY);
        due("told(10) of none", x.told(10), 0);
        for (int k = 1; k <= 30; k++) {
            x.bottle(k);
            due("told(10) behind " + k, x.told(10), k);
        }
        x.bottle(31);
        due("told(10): 30 at most", x.told(10), 30);
        x.undo(30);
        due("told(10) when all is undone", x.told(10), 0);
    }

    static void promise05_itChangesNothing() {
        for (int what = 0; what <= 10; what++) {
            int asked = what;
            changesNothing("told(" + what + ")", x -> x.told(asked));
        }
    }
}
