/** "What is so becomes IMAGE i (nothing can be undone then): 1. UNKNOWN, NOT: it was not kept." */
public final class Promise32GoBack extends Boundary {
    public static void main(String[] args) {
        run(Promise32GoBack.class);
    }

    static void promise32_imagesBelow0() {
        refused("goBack(-1)", UNKNOWN, x -> x.goBack(-1));
        refused("goBack(least)", UNKNOWN, x -> x.goBack(LEAST));
    }

    static void promise32_imagesAbove1() {
        refused("goBack(2)", UNKNOWN, x -> x.goBack(2));
        refused("goBack(most)", UNKNOWN, x -> x.goBack(MOST));
    }

    static void promise32_itWasNotKept() {
        // busy() has kept image 0 alone
        refused("goBack(1)", NOT, x -> x.goBack(1));
        refused(() -> of(VALLEY), "goBack(0)", NOT, x -> x.goBack(0));
        refused(WeatherHand::new, "goBack(0) without a valley", NOT, x -> x.goBack(0));
    }

    static void promise32_unknownComesAheadOfNot() {
        due("goBack(2)", new WeatherHand().goBack(2), UNKNOWN);
        due("goBack(-1)", new WeatherHand().goBack(-1), UNKNOWN);
    }

    static void promise32_anImageOfAnOlderValleyIsGone() {
        WeatherHand x = of(VALLEY);
        x.keep(0);
        x.keep(1);
        feed(x, VALLEY);
        x.valley();
        due("goBack(0)", x.goBack(0), NOT);
        due("goBack(1)", x.goBack(1), NOT);
    }

    static void promise32_aFaultLeavesImages() {
        WeatherHand x = of(VALLEY);
        x.keep(0);
        feed(x, "x");
        x.valley();
        due("goBack(0)", x.goBack(0), 1);
    }

    static void promise32_papersBottleAndSeedGoBack() {
        WeatherHand x = busy();
        due("goBack(0)", x.goBack(0), 1);
        due("told(7)", x.told(7), 5);
        due("told(8)", x.told(8), 6);
        due("letter(0, 4, 0)", x.letter(0, 4, 0), UNKNOWN);
        due("letter(1, 2, 0)", x.letter(1, 2, 0), UNKNOWN);
        due("seed(0)", x.seed(0), 77);
    }

    static void promise32_anEmptyBottleGoesBack() {
        WeatherHand x = of(VALLEY);
        x.keep(0);
        x.bottle(3);
        x.goBack(0);
        due("told(7)", x.told(7), NONE);
        due("add(0, 0, 0, true)", x.add(0, 0, 0, true), NOT);
    }

    static void promise32_forgedLettersGoBack() {
        WeatherHand x = of(VALLEY);
        x.bottle(9);
        x.add(0, 1, 33, true);
        x.keep(1);
        x.blot(0);
        x.add(0, 0, 0, false);
        x.goBack(1);
        due("letter(0, 4, 0)", x.letter(0, 4, 0), 2098);
        due("letter(0, 4, 1)", x.letter(0, 4, 1), 33);
        due("letter(0, 4, 2)", x.letter(0, 4, 2), 1);
        due("letter(0, 4, 4)", x.letter(0, 4, 4), 1);
    }

    static void promise32_allLettersOfAllPapersGoBack() {
        WeatherHand x = of(WINDY + "h1 0 0;p0 0 12;p1 12 12;p0 24 12;p1 36 11;");
        x.bottle(7);
        x.add(3, 1, 95, true);
        x.keep(0);
        for (int p = 0; p < 4; p++) {
            empty(x, p);
            x.bottle(p);
            for (int k = 0; k < 12; k++) {
                x.add(p, 1 - p % 2, 60 + p, p < 3);
            }
        }
        x.goBack(0);
        for (int p = 0; p < 4; p++) {
            for (int l = 0; l < 12; l++) {
                boolean added = p == 3 && l == 11;
                due("the hour of " + p + ", " + l, x.letter(p, l, 1), added ? 95 : 12 * p + l);
                due("the hand of " + p + ", " + l, x.letter(p, l, 2), p % 2);
                due("forged, of " + p + ", " + l, x.letter(p, l, 4), added ? 1 : 0);
            }
        }
        due("the look of the forged one", x.letter(3, 11, 0), 8000);
    }

    static void promise32_emptyAndFullPapersGoBack() {
        WeatherHand x = of(CALM + "p0 0 12;p0 0 1;");
        x.blot(1);
        x.keep(0);
        empty(x, 0);
        fill(x, 1, 5, 12);
        x.goBack(0);
        due("letter(0, -1, 0)", x.letter(0, NONE, 0), 12);
        due("letter(0, 11, 1)", x.letter(0, 11, 1), 11);
        due("letter(1, -1, 0)", x.letter(1, NONE, 0), 0);
    }

    static void promise32_nothingCanBeUndoneThen() {
        WeatherHand x = busy();
        x.goBack(0);
        due("told(10)", x.told(10), 0);
        due("undo(1)", x.undo(1), NOT);
        x.bottle(1);
        due("undo(1) of a later deed", x.undo(1), 6);
        due("told(7)", x.told(7), 5);
    }

    static void promise32_againAndAgain() {
        WeatherHand x = busy();
        for (int k = 0; k < 3; k++) {
            due("goBack(0)", x.goBack(0), 1);
            due("told(8)", x.told(8), 6);
            x.drift(5);
            x.bottle(k);
        }
    }

    static void promise32_whatIsMeasuredTheBookAndTheTextStay() {
        WeatherHand x = busy();
        x.measure(0, 1);
        x.write(0, 1, 0);
        x.goBack(0);
        due("letter(0, 1, 3)", x.letter(0, 1, 3), 1);
        due("told(9)", x.told(9), 2);
        due("judge()", x.judge(), 1);
        due("told(6)", x.told(6), 1);
    }

    static void promise32_theOtherImageStays() {
        WeatherHand x = busy();
        x.keep(1);
        x.goBack(0);
        x.goBack(1);
        due("told(7)", x.told(7), 9);
        due("told(8)", x.told(8), 8);
        due("seed(0)", x.seed(0), 78);
    }
}
