/** BY DRAWS: n times, with what is drawn in which order, and where the seed wraps around. */
public final class Promise12Drift extends Boundary {
    public static void main(String[] args) {
        run(Promise12Drift.class);
    }

    private static WeatherHand seeded(int seed) {
        WeatherHand x = of(VALLEY);
        x.seed(seed);
        return x;
    }

    private static WeatherHand fullPapers() {
        WeatherHand x = of(CALM + "p0 0 12;p0 0 12;");
        x.seed(3);
        return x;
    }

    static void promise12_below1() {
        refused("drift(0)", OUTSIDE, x -> x.drift(0));
        refused("drift(-1)", OUTSIDE, x -> x.drift(-1));
        refused("drift(least)", OUTSIDE, x -> x.drift(LEAST));
    }

    static void promise12_above30() {
        refused("drift(31)", OUTSIDE, x -> x.drift(31));
        refused("drift(most)", OUTSIDE, x -> x.drift(MOST));
    }

    static void promise12_notWithoutAValley() {
        refused(WeatherHand::new, "drift(1)", NOT, x -> x.drift(1));
        refused(WeatherHand::new, "drift(30)", NOT, x -> x.drift(30));
    }

    static void promise12_notWithoutHands() {
        refused(() -> of("v0 0 0;"), "drift(1)", NOT, x -> x.drift(1));
    }

    static void promise12_notWithoutPapers() {
        refused(() -> of(CALM), "drift(1)", NOT, x -> x.drift(1));
        refused(() -> of(CALM), "drift(30)", NOT, x -> x.drift(30));
    }

    static void promise12_outsideComesAheadOfNot() {
        refused(WeatherHand::new, "drift(0)", OUTSIDE, x -> x.drift(0));
        refused(() -> of(CALM), "drift(31)", OUTSIDE, x -> x.drift(31));
    }

    static void promise12_once() {
        WeatherHand x = seeded(0);
        due("drift(1)", x.drift(1), 7);
        due("seed behind three draws", x.seed(0), (int) seedBehind(0, 3));
    }

    static void promise12_thirtyTimes() {
        WeatherHand x = of(CALM + "p0 0 1;p0 0 1;p0 0 1;p0 0 1;");
        x.drift(30);
        due("seed behind ninety draws", x.seed(0), (int) seedBehind(0, 90));
    }

    static void promise12_aDrawOfPapersOfHandsOf96() {
        for (int seed = 0; seed < 20; seed++) {
            WeatherHand x = seeded(seed * 104729);
            int p = drawOf(seed * 104729, 1, 2);
            int h = drawOf(seed * 104729, 2, 3);
            int t = drawOf(seed * 104729, 3, 96);
            int place = p == 0 ? 4 : 2;
            x.drift(1);
            due("the hour drawn from " + seed * 104729, x.letter(p, place, 1), t);
            due("the hand drawn from " + seed * 104729, x.letter(p, place, 2), h);
        }
    }

    static void promise12_theDrawsOfSeed0() {
        // 12345; 1406932606; 654583775 by hand: / 65536 is 0, 21468, 9988
        WeatherHand x = seeded(0);
        x.drift(1);
        due("the paper: 0 left over by 2", x.letter(0, NONE, 0), 5);
        due("the hand: 21468 left over by 3", x.letter(0, 4, 2), 0);
        due("the hour: 9988 left over by 96", x.letter(0, 4, 1), 4);
        due("the seed", x.seed(0), 654583775);
    }

    static void promise12_theSeedWrapsAtTwoToThe31() {
        WeatherHand x = seeded(MOST);
        x.drift(1);
        due("the seed", x.seed(0), (int) seedBehind(MOST, 3));
        due("one draw from the greatest", (int) seedBehind(MOST, 1), 1043980748);
    }

    static void promise12_oneHandAndOnePaperAreDrawnToo() {
        WeatherHand x = of(CALM + "p0 0 1;");
        x.drift(1);
        due("the hour is the third draw", x.letter(0, 1, 1), 4);
        due("the seed behind three draws", x.seed(0), 654583775);
    }

    static void promise12_aFullPaperGetsNothing() {
        WeatherHand x = fullPapers();
        due("drift(30)", x.drift(30), 24);
        due("told(10)", x.told(10), 0);
    }

    static void promise12_drawsGoOnForAFullPaper() {
        WeatherHand x = fullPapers();
        x.drift(30);
        due("the seed", x.seed(0), (int) seedBehind(3, 90));
    }

    static void promise12_oneOfTwoPapersIsFull() {
        // from seed 0 paper 0 is drawn at first, then paper 1
        WeatherHand x = of(CALM + "p0 0 12;p0 0 1;");
        due("drift(2)", x.drift(2), 14);
        due("told(10)", x.told(10), 1);
        due("letter(0, -1, 0)", x.letter(0, NONE, 0), 12);
        due("letter(1, -1, 0)", x.letter(1, NONE, 0), 2);
        due("the hour is the sixth draw", x.letter(1, 1, 1), drawOf(0, 6, 96));
    }

    static void promise12_aPaperGetsFullOnTheWay() {
        WeatherHand x = of(CALM + "p0 0 11;");
        due("drift(30)", x.drift(30), 12);
        due("told(10)", x.told(10), 1);
        due("the hour is of the first time", x.letter(0, 11, 1), 4);
        due("the seed", x.seed(0), (int) seedBehind(0, 90));
    }

    static void promise12_neverFromTheBottle() {
        WeatherHand x = seeded(5);
        x.bottle(7);
        x.drift(10);
        due("letter(0, -1, 1)", x.letter(0, NONE, 1), 0);
        due("letter(1, -1, 1)", x.letter(1, NONE, 1), 0);
        due("told(7)", x.told(7), 7);
    }

    static void promise12_eachTimeThatAddedIsADeed() {
        WeatherHand x = seeded(0);
        x.drift(5);
        due("told(10)", x.told(10), 5);
        due("undo(2)", x.undo(2), 9);
        due("told(10) behind undo", x.told(10), 3);
    }

    static void promise12_thirtyTimesAreAllTheDeedsThatAreKept() {
        WeatherHand x = of(CALM + "p0 0 1;p0 0 1;p0 0 1;p0 0 1;");
        x.bottle(6);
        due("drift(30)", x.drift(30), 34);
        due("told(10)", x.told(10), 30);
        due("undo(30)", x.undo(30), 4);
        due("told(7)", x.told(7), 6);
        due("undo(1)", x.undo(1), NOT);
    }

    static void promise12_itAnswersLettersOfAllPapers() {
        WeatherHand x = of(CALM + "p0 0 3;p0 0 4;");
        due("drift(1)", x.drift(1), 8);
        due("told(8)", x.told(8), 8);
    }
}
