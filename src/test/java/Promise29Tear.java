/** "Nothing MEASURED, no BOOK: how much both had." */
public final class Promise29Tear extends Boundary {
    public static void main(String[] args) {
        run(Promise29Tear.class);
    }

    static void promise29_neitherHadAnything() {
        due("tear()", of(VALLEY).tear(), 0);
        due("tear() without a valley", new WeatherHand().tear(), 0);
    }

    static void promise29_measuredAlone() {
        WeatherHand x = of(VALLEY);
        x.measure(0, 0);
        x.measure(1, 1);
        due("tear()", x.tear(), 2);
    }

    static void promise29_theBookAlone() {
        WeatherHand x = of(VALLEY);
        x.write(0, 0, 0);
        due("tear()", x.tear(), 1);
    }

    static void promise29_asMuchAsThereCanBe() {
        WeatherHand x = of(CALM + "p0 0 12;p0 0 12;p0 0 12;p0 0 12;");
        for (int k = 0; k < 48; k++) {
            x.measure(k / 12, k % 12);
        }
        for (int k = 0; k < 20; k++) {
            x.write(0, 0, 0);
        }
        due("tear()", x.tear(), 68);
        due("tear() again", x.tear(), 0);
    }

    static void promise29_aPlaceMeasuredTwiceIsOne() {
        WeatherHand x = of(VALLEY);
        x.measure(0, 0);
        x.measure(0, 0);
        due("tear()", x.tear(), 1);
    }

    static void promise29_measuredPlacesWithoutTheirLetters() {
        WeatherHand x = of(VALLEY);
        x.measure(0, 3);
        x.blot(0);
        due("tear()", x.tear(), 1);
        x.undo(1);
        due("letter(0, 3, 3)", x.letter(0, 3, 3), 0);
    }

    static void promise29_nothingIsMeasuredThen() {
        WeatherHand x = of(CALM + "p0 0 12;p0 0 1;p0 0 1;p0 0 12;");
        x.measure(0, 0);
        x.measure(3, 11);
        x.tear();
        due("letter(0, 0, 3)", x.letter(0, 0, 3), 0);
        due("letter(3, 11, 3)", x.letter(3, 11, 3), 0);
        due("measure(3, 0)", x.measure(3, 0), 1);
    }

    static void promise29_noBookThen() {
        WeatherHand x = of(VALLEY);
        x.write(0, 0, 0);
        x.tear();
        due("told(9)", x.told(9), 0);
        due("judge()", x.judge(), NONE);
        due("write(0, 0, 0)", x.write(0, 0, 0), 1);
    }

    static void promise29_allElseStays() {
        WeatherHand x = busy();
        WeatherHand y = busy();
        due("tear()", x.tear(), 2);
        due("told(7)", x.told(7), y.told(7));
        due("told(8)", x.told(8), y.told(8));
        due("told(10)", x.told(10), 3);
        due("seed(0)", x.seed(0), 78);
        due("undo(3)", x.undo(3), 6);
        due("goBack(0)", x.goBack(0), 1);
        due("told(7) of the image", x.told(7), 5);
    }
}
