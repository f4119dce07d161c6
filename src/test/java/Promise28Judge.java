/** WRONG: the first entry of THE BOOK that is otherwise, or is not there; NONE. */
public final class Promise28Judge extends Boundary {
    public static void main(String[] args) {
        run(Promise28Judge.class);
    }

    static void promise28_noBook() {
        due("judge()", of(VALLEY).judge(), NONE);
        due("judge() without a valley", new WeatherHand().judge(), NONE);
    }

    static void promise28_allIsSo() {
        WeatherHand x = of(VALLEY);
        x.write(0, 0, 3022);
        x.write(0, 3, 4022);
        x.write(1, 1, 8029);
        due("judge()", x.judge(), NONE);
    }

    static void promise28_theFirstEntryIsOtherwise() {
        WeatherHand x = of(VALLEY);
        x.write(0, 0, 3023);
        x.write(0, 3, 4022);
        due("judge()", x.judge(), 0);
    }

    static void promise28_theTwentiethEntryIsOtherwise() {
        WeatherHand x = of(VALLEY);
        for (int k = 0; k < 19; k++) {
            x.write(0, 0, 3022);
        }
        x.write(0, 0, 3021);
        due("judge()", x.judge(), 19);
    }

    static void promise28_twentyThatAreSo() {
        WeatherHand x = of(VALLEY);
        for (int k = 0; k < 20; k++) {
            x.write(0, 0, 3022);
        }
        due("judge()", x.judge(), NONE);
    }

    static void promise28_ofSeveralTheFirst() {
        WeatherHand x = of(VALLEY);
        x.write(0, 0, 3022);
        x.write(0, 1, 0);
        x.write(0, 2, 0);
        due("judge()", x.judge(), 1);
    }

    static void promise28_whatIsNotThere() {
        WeatherHand x = of(VALLEY);
        x.write(1, 1, 8029);
        x.write(1, 2, 8029);
        due("judge()", x.judge(), 1);
        WeatherHand y = of(VALLEY);
        y.write(0, 11, 0);
        due("judge() of place 11", y.judge(), 0);
    }

    static void promise28_whatIsNotThereWhateverLookIsTold() {
        for (int look = 0; look < 10000; look += 1111) {
            WeatherHand x = of(CALM + "p0 0 1;");
            x.blot(0);
            x.write(0, 0, look);
            due("judge() of " + look, x.judge(), 0);
        }
    }

    static void promise28_whatWasBlottedIsNotThere() {
        WeatherHand x = of(VALLEY);
        x.write(0, 3, 4022);
        due("judge()", x.judge(), NONE);
        x.blot(0);
        due("judge() blotted", x.judge(), 0);
        x.undo(1);
        due("judge() undone", x.judge(), NONE);
    }

    static void promise28_whatComesThereLater() {
        WeatherHand x = of(VALLEY);
        x.write(1, 2, 8029);
        x.add(1, 2, 95, false);
        due("judge() of the look told", x.judge(), NONE);
        x.blot(1);
        x.add(1, 2, 94, false);
        due("judge() of another look", x.judge(), 0);
    }

    static void promise28_theTwelfthLetter() {
        WeatherHand x = of(WINDY + "p0 84 12;");
        x.write(0, 11, 7000);
        due("judge()", x.judge(), NONE);
        x.write(0, 11, 6999);
        due("judge()", x.judge(), 1);
    }

    static void promise28_aForgedLetterByItsLook() {
        WeatherHand x = of(WINDY + "p0 0 1;");
        x.bottle(3);
        x.add(0, 0, 5, true);
        x.write(0, 1, 3000);
        due("judge()", x.judge(), NONE);
        x.write(0, 1, 5000);
        due("judge()", x.judge(), 1);
    }

    static void promise28_aTornBook() {
        WeatherHand x = of(VALLEY);
        x.write(0, 0, 0);
        x.tear();
        due("judge()", x.judge(), NONE);
        x.write(0, 0, 3022);
        due("judge() of a new one", x.judge(), NONE);
    }

    static void promise28_itChangesNothing() {
        changesNothing("judge()", x -> x.judge());
    }
}
