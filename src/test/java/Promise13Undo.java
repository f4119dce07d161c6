/** UNDONE: the latest deeds since the text or IMAGE, 30 at most kept; THE SEED stays. */
public final class Promise13Undo extends Boundary {
    public static void main(String[] args) {
        run(Promise13Undo.class);
    }

    private static WeatherHand bottled(int deeds) {
        WeatherHand x = of(VALLEY);
        for (int k = 1; k <= deeds; k++) {
            x.bottle(k);
        }
        return x;
    }

    static void promise13_below1() {
        refused("undo(0)", OUTSIDE, x -> x.undo(0));
        refused("undo(-1)", OUTSIDE, x -> x.undo(-1));
        refused("undo(least)", OUTSIDE, x -> x.undo(LEAST));
    }

    static void promise13_above30() {
        refused("undo(31)", OUTSIDE, x -> x.undo(31));
        refused("undo(most)", OUTSIDE, x -> x.undo(MOST));
        refused(() -> bottled(40), "undo(31) of forty", OUTSIDE, x -> x.undo(31));
    }

    static void promise13_notSoMany() {
        refused("undo(4) of three", NOT, x -> x.undo(4));
        refused("undo(30) of three", NOT, x -> x.undo(30));
        refused(() -> of(VALLEY), "undo(1) of none", NOT, x -> x.undo(1));
        refused(() -> bottled(29), "undo(30) of 29", NOT, x -> x.undo(30));
    }

    static void promise13_outsideComesAheadOfNot() {
        refused(() -> of(VALLEY), "undo(0) of none", OUTSIDE, x -> x.undo(0));
        refused(() -> of(VALLEY), "undo(31) of none", OUTSIDE, x -> x.undo(31));
        refused(WeatherHand::new, "undo(31) of no valley", OUTSIDE, x -> x.undo(31));
    }

    static void promise13_allThatThereAre() {
        WeatherHand x = busy();
        due("undo(3)", x.undo(3), 6);
        due("told(10)", x.told(10), 0);
        due("undo(1)", x.undo(1), NOT);
    }

    static void promise13_thirty() {
        WeatherHand x = bottled(30);
        due("undo(30)", x.undo(30), 6);
        due("told(7)", x.told(7), NONE);
    }

    static void promise13_the31stDeedPushesTheFirstOut() {
        WeatherHand x = bottled(31);
        due("undo(30)", x.undo(30), 6);
        due("told(7)", x.told(7), 1);
        due("undo(1)", x.undo(1), NOT);
    }

    static void promise13_manyMoreThan30() {
        WeatherHand x = bottled(95);
        due("undo(30)", x.undo(30), 6);
        due("told(7)", x.told(7), 65);
        for (int k = 0; k < 3; k++) {
            x.bottle(k);
        }
        due("undo(4) of three", x.undo(4), NOT);
        due("undo(3)", x.undo(3), 6);
        due("told(7)", x.told(7), 65);
    }

    static void promise13_oneByOneAndAtOnceAreAlike() {
        WeatherHand x = busy();
        WeatherHand y = busy();
        x.undo(3);
        y.undo(1);
        y.undo(1);
        y.undo(1);
        goesOnLike("undo(3)", x, y);
    }

    static void promise13_addedIsUndone() {
        WeatherHand x = of(VALLEY);
        x.add(0, 1, 50, false);
        due("undo(1)", x.undo(1), 6);
        due("letter(0, 4, 0)", x.letter(0, 4, 0), UNKNOWN);
    }

    static void promise13_blottedIsUndone() {
        WeatherHand x = of(VALLEY);
        x.bottle(9);
        x.add(0, 1, 33, true);
        x.bottle(NONE);
        due("blot(0)", x.blot(0), 2098);
        due("undo(1)", x.undo(1), 7);
        due("its look", x.letter(0, 4, 0), 2098);
        due("its hour", x.letter(0, 4, 1), 33);
        due("its hand", x.letter(0, 4, 2), 1);
        due("it is forged", x.letter(0, 4, 4), 1);
        due("told(7)", x.told(7), NONE);
    }

    static void promise13_bottledIsUndone() {
        WeatherHand x = of(VALLEY);
        x.bottle(0);
        x.bottle(NONE);
        x.undo(1);
        due("told(7)", x.told(7), 0);
        x.undo(1);
        due("told(7)", x.told(7), NONE);
    }

    static void promise13_blottedAndAddedAtOnePlace() {
        WeatherHand x = of(VALLEY);
        x.blot(0);
        x.add(0, 1, 50, false);
        x.blot(0);
        x.add(0, 2, 60, false);
        due("undo(4)", x.undo(4), 6);
        due("its look", x.letter(0, 3, 0), 4022);
        due("its hour", x.letter(0, 3, 1), 12);
        due("its hand", x.letter(0, 3, 2), 0);
    }

    static void promise13_aFullPaperEmptiedAndUndone() {
        WeatherHand x = of(WINDY + "p0 84 12;");
        empty(x, 0);
        due("undo(12)", x.undo(12), 12);
        for (int l = 0; l < 12; l++) {
            due("the hour of " + l, x.letter(0, l, 1), 84 + l);
        }
    }

    static void promise13_deedsOnEachPaperAreUndone() {
        WeatherHand x = of(WINDY + "h1 0 0;p0 0 1;p0 1 2;p1 2 3;p1 3 4;");
        for (int p = 3; p >= 0; p--) {
            x.blot(p);
            x.add(p, 1, 90, false);
            x.add(p, 0, 91, false);
        }
        due("undo(12)", x.undo(12), 10);
        for (int p = 0; p < 4; p++) {
            due("letters of " + p, x.letter(p, NONE, 0), p + 1);
            due("the last hour of " + p, x.letter(p, p, 1), 2 * p);
            due("the last hand of " + p, x.letter(p, p, 2), p / 2);
        }
    }

    static void promise13_aBlotUndoneLeavesTheBottle() {
        WeatherHand x = of(VALLEY);
        x.bottle(3);
        x.blot(0);
        x.undo(1);
        due("told(7)", x.told(7), 3);
    }

    static void promise13_timesByDrawsThatAddedAreUndone() {
        WeatherHand x = of(VALLEY);
        x.drift(3);
        due("undo(1)", x.undo(1), 8);
        due("undo(2)", x.undo(2), 6);
        due("undo(1) of none", x.undo(1), NOT);
    }

    static void promise13_timesByDrawsThatDidNotAddAreNone() {
        WeatherHand x = of(CALM + "p0 0 11;");
        x.drift(30);
        due("undo(2)", x.undo(2), NOT);
        due("undo(1)", x.undo(1), 11);
    }

    static void promise13_theSeedStays() {
        WeatherHand x = of(VALLEY);
        x.seed(11);
        x.drift(2);
        x.undo(2);
        due("seed(0)", x.seed(0), (int) seedBehind(11, 6));
        x.add(0, 0, 0, false);
        x.seed(99);
        x.undo(1);
        due("seed(0) told behind the deed", x.seed(0), 99);
    }

    static void promise13_whatIsMeasuredAndTheBookStay() {
        WeatherHand x = of(VALLEY);
        x.add(0, 0, 0, false);
        x.measure(0, 4);
        x.write(0, 4, 0);
        x.undo(1);
        due("told(9)", x.told(9), 1);
        x.add(0, 0, 0, false);
        due("letter(0, 4, 3)", x.letter(0, 4, 3), 1);
    }

    static void promise13_whatIsRefusedIsNoDeed() {
        WeatherHand x = of(VALLEY);
        x.add(0, 0, 96, false);
        x.add(2, 0, 0, false);
        x.add(0, 0, 0, true);
        x.blot(2);
        x.bottle(96);
        x.drift(0);
        due("told(10)", x.told(10), 0);
        due("undo(1)", x.undo(1), NOT);
    }

    static void promise13_whatIsNoDeedIsNotUndone() {
        WeatherHand x = of(VALLEY);
        x.measure(0, 0);
        x.write(0, 0, 0);
        x.tear();
        x.seed(4);
        x.look(0, 0);
        due("told(10)", x.told(10), 0);
    }

    static void promise13_nothingSinceAnImage() {
        WeatherHand x = busy();
        x.keep(1);
        due("undo(1) behind keep(1)", x.undo(1), NOT);
        x.bottle(1);
        x.goBack(0);
        due("undo(1) behind goBack(0)", x.undo(1), NOT);
        x.bottle(2);
        due("undo(2) behind one deed", x.undo(2), NOT);
        due("undo(1) behind one deed", x.undo(1), 6);
        due("told(7)", x.told(7), 5);
    }

    static void promise13_anUndoIsNoDeed() {
        WeatherHand x = bottled(2);
        x.undo(1);
        due("told(10)", x.told(10), 1);
        x.undo(1);
        due("undo(1)", x.undo(1), NOT);
        due("told(7)", x.told(7), NONE);
    }

    static void promise13_newDeedsBehindAnUndo() {
        WeatherHand x = bottled(30);
        x.undo(5);
        for (int k = 80; k < 90; k++) {
            x.bottle(k);
        }
        due("told(10)", x.told(10), 30);
        due("undo(10)", x.undo(10), 6);
        due("told(7)", x.told(7), 25);
        due("undo(20)", x.undo(20), 6);
        due("told(7)", x.told(7), 5);
    }

    static void promise13_bottledWithoutAConditionPushesOlderDeedsOut() {
        WeatherHand x = of(VALLEY);
        x.add(0, 0, 0, false);
        for (int k = 0; k < 30; k++) {
            x.bottle(NONE);
        }
        due("told(10)", x.told(10), 30);
        due("undo(30)", x.undo(30), 7);
        due("undo(1)", x.undo(1), NOT);
    }
}
