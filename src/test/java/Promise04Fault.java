/** "The letter of the FAULT of the latest valley(); NONE." */
public final class Promise04Fault extends Boundary {
    public static void main(String[] args) {
        run(Promise04Fault.class);
    }

    private static WeatherHand behind(String... texts) {
        WeatherHand x = new WeatherHand();
        for (String text : texts) {
            feed(x, text);
            x.valley();
        }
        return x;
    }

    static void promise04_noneAheadOfAnyValley() {
        WeatherHand x = new WeatherHand();
        due("fault()", x.fault(), NONE);
        feed(x, "x");
        due("fault() of a text not read yet", x.fault(), NONE);
    }

    static void promise04_noneWithoutAFault() {
        due("fault()", behind(VALLEY).fault(), NONE);
    }

    static void promise04_noneOfAnEmptyText() {
        due("fault()", behind("").fault(), NONE);
        due("fault() behind another", behind("x", "").fault(), NONE);
    }

    static void promise04_theFirstLetterIs0() {
        due("fault()", behind("x").fault(), 0);
    }

    static void promise04_blanksAreCounted() {
        due("fault() behind three blanks", behind("   x").fault(), 3);
        due("fault() of a number behind blanks", behind("v   8").fault(), 4);
    }

    static void promise04_theEndIsTheLength() {
        due("fault()", behind("v0 0 0").fault(), 6);
        due("fault() behind blanks", behind("v0 0 0 ").fault(), 7);
    }

    static void promise04_theEndOfAFullText() {
        due("fault()", behind("v0 0 0;" + " ".repeat(222) + "d").fault(), 230);
    }

    static void promise04_theLastLetterOfAFullText() {
        due("fault()", behind("v0 0 0;" + " ".repeat(222) + "x").fault(), 229);
    }

    static void promise04_ofTheLatestOnly() {
        due("a fault behind a fault", behind("v0 0 0;x", "v8").fault(), 1);
        due("no fault behind a fault", behind("v0 0 0;x", VALLEY).fault(), NONE);
        due("a fault behind none", behind(VALLEY, "v0 0 0;x").fault(), 7);
    }

    static void promise04_itStaysTillTheNextValley() {
        WeatherHand x = behind(VALLEY, "v0 0 0;x");
        due("fault()", x.fault(), 7);
        due("fault() again", x.fault(), 7);
        feed(x, "v8");
        x.add(0, 0, 0, false);
        x.keep(0);
        x.goBack(0);
        x.tear();
        due("fault() behind other calls", x.fault(), 7);
    }

    static void promise04_itChangesNothing() {
        changesNothing("fault()", x -> x.fault());
    }
}
