/** RAIN from PAPERS: numbers 0 to 9 by which all LETTERS of a DAY that are not FORGED look as they do (a SET). */
public final class Promise25Rain extends Boundary {
    public static void main(String[] args) {
        run(Promise25Rain.class);
    }

    static void promise25_daysBelow0() {
        refused("rain(-1)", OUTSIDE, x -> x.rain(-1));
        refused("rain(least)", OUTSIDE, x -> x.rain(LEAST));
    }

    static void promise25_daysAbove7() {
        refused("rain(8)", OUTSIDE, x -> x.rain(8));
        refused("rain(most)", OUTSIDE, x -> x.rain(MOST));
    }

    static void promise25_notWithoutAValley() {
        refused(WeatherHand::new, "rain(0)", NOT, x -> x.rain(0));
        refused(WeatherHand::new, "rain(7)", NOT, x -> x.rain(7));
    }

    static void promise25_outsideComesAheadOfNot() {
        refused(WeatherHand::new, "rain(-1)", OUTSIDE, x -> x.rain(-1));
        refused(WeatherHand::new, "rain(8)", OUTSIDE, x -> x.rain(8));
    }

    static void promise25_noLetterOfTheDay() {
        due("without papers", of("v0 0 0;").rain(0), 1023);
        due("without papers, the last day", of("v0 0 0;").rain(7), 1023);
        due("of another day", of(CALM + "p0 0 12;").rain(1), 1023);
        WeatherHand x = of(CALM + "p0 0 1;");
        x.blot(0);
        due("blotted", x.rain(0), 1023);
    }

    static void promise25_theLeastNumber() {
        due("damp 1 alone", of("v0 1 12;h0 0 0;p0 0 1;").rain(0), 1);
        due("damp 0 and 1", of("v0 0 12;h0 0 0;p0 0 1;").rain(0), 3);
    }

    static void promise25_theGreatestNumber() {
        due("damp 10 alone", of("v0 1 12;d9;h0 0 0;p0 0 1;").rain(0), 512);
        due("damp 8 and 9", of("v0 0 12;d9;h0 0 0;p0 0 1;").rain(0), 768);
    }

    static void promise25_dampOf19AtMost() {
        due("18 and 19", of("v0 9 0;d9;h0 0 0;p0 0 1;").rain(0), 768);
        due("18 and more", of("v0 9 0;d9;h0 0 0;p0 1 1;").rain(0), 896);
        due("always 19", of("v0 9 0;h0 0 0;p0 11 1;").rain(0), 1023);
    }

    static void promise25_fullOf15AtMost() {
        due("14 and more", of("v0 9 12;d9;h0 8 0;p0 0 1;").rain(0), 992);
        due("less", of("v0 9 12;d4;h0 8 0;p0 0 1;").rain(0), 24);
    }

    static void promise25_theFirstAndLastHourOfADay() {
        due("hour 11 is of day 0", of("v0 1 12;h0 0 0;p0 11 1;").rain(0), 1);
        due("hour 11 is not of day 1", of("v0 1 12;h0 0 0;p0 11 1;").rain(1), 1023);
        due("hour 12 is of day 1", of("v0 1 12;h0 0 0;p0 12 1;").rain(1), 1);
        due("hour 12 is not of day 0", of("v0 1 12;h0 0 0;p0 12 1;").rain(0), 1023);
        due("hour 84 is of day 7", of("v0 1 12;h0 0 0;p0 84 1;").rain(7), 1);
        due("hour 95 is of day 7", of("v0 1 12;h0 0 0;p0 95 1;").rain(7), 1);
        due("hour 83 is not of day 7", of("v0 1 12;h0 0 0;p0 83 1;").rain(7), 1023);
    }

    static void promise25_allLettersOfTheDay() {
        // one letter leaves 0 and 1, the other, behind a dark hour, 0 alone
        due("of one paper", of("v0 0 11;h0 0 0;p0 10 2;").rain(0), 1);
        due("of two papers", of("v0 0 11;h0 0 0;p0 10 1;p0 11 1;").rain(0), 1);
        due("of four papers", of("v0 0 11;h0 0 0;p0 10 1;p0 10 1;p0 10 1;p0 11 1;").rain(0), 1);
        due("without the other", of("v0 0 11;h0 0 0;p0 10 1;").rain(0), 3);
        due("the twelfth letter", of("v0 0 11;h0 0 0;p0 0 12;").rain(0), 1);
    }

    static void promise25_forgedLettersTellNothing() {
        WeatherHand x = of("v0 1 12;d9,0;h0 0 0;p0 0 1;");
        x.bottle(0);
        x.add(0, 0, 12, true);
        due("told of day 1, air of day 0", x.rain(1), 1023);
        x.bottle(12);
        x.add(0, 0, 1, true);
        due("told of day 0, air of day 1", x.rain(0), 512);
        x.add(0, 0, 13, true);
        due("told of day 1, air of day 1", x.rain(1), 1023);
    }

    static void promise25_inPlaceOfItsOwn() {
        // day 3 has the first number again: what it tells is of that day alone
        WeatherHand x = of("v0 1 12;d1,5,9;h0 0 0;p0 36 1;");
        due("rain(3)", x.rain(3), 6);
        due("rain(0)", x.rain(0), 1023);
        due("rain(7) by the second number", of("v0 1 12;d1,5,9;h0 0 0;p0 84 1;").rain(7), 96);
    }

    static void promise25_itChangesNothing() {
        changesNothing("rain(0)", x -> x.rain(0));
        changesNothing("rain(2)", x -> x.rain(2));
    }
}
