/** "IMAGE i becomes what is so (nothing can be undone then): 1. UNKNOWN." */
public final class Promise31Keep extends Boundary {
    public static void main(String[] args) {
        run(Promise31Keep.class);
    }

    static void promise31_imagesBelow0() {
        refused("keep(-1)", UNKNOWN, x -> x.keep(-1));
        refused("keep(least)", UNKNOWN, x -> x.keep(LEAST));
    }

    static void promise31_imagesAbove1() {
        refused("keep(2)", UNKNOWN, x -> x.keep(2));
        refused("keep(most)", UNKNOWN, x -> x.keep(MOST));
    }

    static void promise31_images0And1() {
        WeatherHand x = of(VALLEY);
        due("keep(0)", x.keep(0), 1);
        due("keep(1)", x.keep(1), 1);
        due("goBack(0)", x.goBack(0), 1);
        due("goBack(1)", x.goBack(1), 1);
    }

    static void promise31_oneImageIsNotTheOther() {
        WeatherHand x = of(VALLEY);
        x.keep(1);
        due("goBack(0)", x.goBack(0), NOT);
        x.blot(0);
        x.keep(0);
        x.goBack(1);
        due("told(8) of image 1", x.told(8), 6);
        x.goBack(0);
        due("told(8) of image 0", x.told(8), 5);
    }

    static void promise31_nothingCanBeUndoneThen() {
        for (int i = 0; i <= 1; i++) {
            WeatherHand x = busy();
            x.keep(i);
            due("told(10)", x.told(10), 0);
            due("undo(1)", x.undo(1), NOT);
        }
    }

    static void promise31_deedsAfterItCanBeUndone() {
        WeatherHand x = busy();
        x.keep(1);
        x.bottle(1);
        due("told(10)", x.told(10), 1);
        due("undo(1)", x.undo(1), 8);
        due("told(7)", x.told(7), 9);
    }

    static void promise31_anImageIsKeptAgain() {
        WeatherHand x = of(VALLEY);
        x.keep(0);
        x.blot(0);
        x.bottle(7);
        x.seed(3);
        due("keep(0) again", x.keep(0), 1);
        x.add(0, 0, 0, false);
        x.bottle(8);
        x.seed(4);
        x.goBack(0);
        due("told(8)", x.told(8), 5);
        due("told(7)", x.told(7), 7);
        due("seed(0)", x.seed(0), 3);
    }

    static void promise31_laterDeedsDoNotReachTheImage() {
        WeatherHand x = of(VALLEY);
        x.keep(0);
        empty(x, 0);
        fill(x, 0, 50, 12);
        empty(x, 1);
        x.goBack(0);
        due("letter(0, -1, 0)", x.letter(0, NONE, 0), 4);
        due("letter(0, 0, 0)", x.letter(0, 0, 0), 3022);
        due("letter(0, 3, 1)", x.letter(0, 3, 1), 12);
        due("letter(1, -1, 0)", x.letter(1, NONE, 0), 2);
        due("letter(1, 1, 0)", x.letter(1, 1, 0), 8029);
    }

    static void promise31_whatIsSoStays() {
        WeatherHand x = busy();
        x.keep(1);
        due("told(7)", x.told(7), 9);
        due("told(8)", x.told(8), 8);
        due("told(9)", x.told(9), 1);
        due("letter(0, 0, 3)", x.letter(0, 0, 3), 1);
        due("seed(0)", x.seed(0), 78);
    }

    static void promise31_withoutAValley() {
        due("keep(0)", new WeatherHand().keep(0), 1);
        due("keep(2)", new WeatherHand().keep(2), UNKNOWN);
    }
}
