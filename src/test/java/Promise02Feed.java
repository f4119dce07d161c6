/** "A letter (0 .. 255) comes behind THE TEXT: how many it has. OUTSIDE, FULL (230)." */
public final class Promise02Feed extends Boundary {
    public static void main(String[] args) {
        run(Promise02Feed.class);
    }

    private static WeatherHand withFullText() {
        WeatherHand x = of(CALM);
        feed(x, " ".repeat(230));
        return x;
    }

    static void promise02_lettersBelow0AreOutside() {
        refused("feed(-1)", OUTSIDE, x -> x.feed(-1));
        refused("feed(least)", OUTSIDE, x -> x.feed(LEAST));
    }

    static void promise02_letter0IsTaken() {
        WeatherHand x = new WeatherHand();
        due("feed(0)", x.feed(0), 1);
        due("told(6)", x.told(6), 1);
    }

    static void promise02_letter255IsTaken() {
        WeatherHand x = new WeatherHand();
        due("feed(255)", x.feed(255), 1);
        due("told(6)", x.told(6), 1);
    }

    static void promise02_lettersAbove255AreOutside() {
        refused("feed(256)", OUTSIDE, x -> x.feed(256));
        refused("feed(most)", OUTSIDE, x -> x.feed(MOST));
    }

    static void promise02_aLetterIsNotCutToEightBits() {
        WeatherHand x = new WeatherHand();
        due("feed(256 + 'v')", x.feed(256 + 'v'), OUTSIDE);
        feed(x, "v0 0 0;");
        due("valley()", x.valley(), 0);
    }

    static void promise02_itComesBehind() {
        WeatherHand x = new WeatherHand();
        due("the first", x.feed('v'), 1);
        due("the second", x.feed('7'), 2);
        due("the third", x.feed(' '), 3);
        feed(x, "9 1;");
        x.valley();
        due("told(1)", x.told(1), 7);
        due("told(2)", x.told(2), 9);
        due("told(3)", x.told(3), 1);
    }

    static void promise02_the230thIsTaken() {
        WeatherHand x = new WeatherHand();
        for (int k = 1; k <= 230; k++) {
            due("feed the letter " + k, x.feed(' '), k);
        }
        due("told(6)", x.told(6), 230);
    }

    static void promise02_the231stIsFull() {
        refused(Promise02Feed::withFullText, "feed the letter 231", FULL, x -> x.feed('x'));
    }

    static void promise02_outsideComesAheadOfFull() {
        refused(Promise02Feed::withFullText, "feed(-1) of a full text", OUTSIDE, x -> x.feed(-1));
        refused(Promise02Feed::withFullText, "feed(256) of a full text", OUTSIDE, x -> x.feed(256));
    }

    static void promise02_aFullTextIsReadWhole() {
        WeatherHand x = new WeatherHand();
        feed(x, " ".repeat(230 - CALM.length()) + CALM);
        due("told(6)", x.told(6), 230);
        due("valley()", x.valley(), 0);
        due("told(4)", x.told(4), 1);
    }

    static void promise02_behindValleyItBeginsAgain() {
        WeatherHand x = withFullText();
        feed(x, "x");
        x.valley();
        due("feed behind valley()", x.feed('v'), 1);
    }
}
