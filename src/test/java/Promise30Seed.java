/** "THE SEED becomes v (0 .. 2147483647): what it was. OUTSIDE." */
public final class Promise30Seed extends Boundary {
    public static void main(String[] args) {
        run(Promise30Seed.class);
    }

    static void promise30_below0() {
        refused("seed(-1)", OUTSIDE, x -> x.seed(-1));
        refused("seed(least)", OUTSIDE, x -> x.seed(LEAST));
        refused(WeatherHand::new, "seed(-1) without a valley", OUTSIDE, x -> x.seed(-1));
    }

    static void promise30_0AndTheGreatest() {
        WeatherHand x = new WeatherHand();
        due("seed(most) behind the first 0", x.seed(MOST), 0);
        due("seed(0) behind the greatest", x.seed(0), MOST);
        due("seed(1) behind 0", x.seed(1), 0);
        due("seed(2) behind 1", x.seed(2), 1);
    }

    static void promise30_withoutAValley() {
        WeatherHand x = new WeatherHand();
        x.seed(7);
        feed(x, VALLEY);
        x.valley();
        due("seed(0)", x.seed(0), 7);
    }

    static void promise30_whatDrawsMadeOfIt() {
        WeatherHand x = of(VALLEY);
        x.seed(8);
        x.drift(20);
        due("seed(0)", x.seed(0), 914376412);
    }

    static void promise30_theSameSeedDrawsTheSame() {
        WeatherHand x = of(VALLEY);
        WeatherHand y = of(VALLEY);
        y.drift(3);
        y.undo(3);
        x.seed(5);
        y.seed(5);
        x.drift(4);
        y.drift(4);
        due("alike", state(x).equals(state(y)) ? 1 : 0, 1);
    }

    static void promise30_itIsNoDeed() {
        WeatherHand x = busy();
        x.seed(1);
        due("told(10)", x.told(10), 3);
        x.undo(3);
        due("seed(0)", x.seed(0), 1);
    }
}
