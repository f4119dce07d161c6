/** For each promise of the document: ordinary inputs, its edges and its refusals, worked out by hand. */
public final class PromiseRuns {
    private static final int NONE = -1;
    private static final int UNKNOWN = -1000000001;
    private static final int OUTSIDE = -1000000002;
    private static final int NOT = -1000000003;
    private static final int FULL = -1000000004;
    private static final int LEAST = Integer.MIN_VALUE;
    private static final int MOST = Integer.MAX_VALUE;

    /** Wind turns by 3, damp 2, light 10 hours; rain 1, 0, 5; three hands; paper 1 runs into the end of time. */
    private static final String VALLEY = "v3 2 10;d1,0,5;h0 1 2;h8 8 8;h3 0 7;p0 9 4;p2 94 5;";

    private static int wrong = 0;
    private static int promise = 0;

    private static void due(String what, int got, int want) {
        if (got != want) {
            wrong++;
            System.out.println("promise " + promise + ": " + what + " answered " + got + ", due is " + want);
        }
    }

    private static void tell(WeatherHand x, String text) {
        for (int k = 0; k < text.length(); k++) {
            x.feed(text.charAt(k));
        }
    }

    private static WeatherHand of(String text) {
        WeatherHand x = new WeatherHand();
        tell(x, text);
        int answer = x.valley();
        if (answer < 0) {
            due("valley() of " + text, answer, 0);
        }
        return x;
    }

    private static void reads(String text, int want, int wantFault) {
        WeatherHand x = of(VALLEY);
        tell(x, text);
        due("valley() of '" + text + "'", x.valley(), want);
        due("fault() of '" + text + "'", x.fault(), wantFault);
        due("told(6) behind '" + text + "'", x.told(6), 0);
        if (want < 0) {
            due("told(8) behind '" + text + "'", x.told(8), 6);
        }
    }

    public static void main(String[] args) {
        Patience.begin();
        newObject();
        feed();
        valley();
        valleyClearsAndKeeps();
        fault();
        told();
        weather();
        hand();
        letter();
        add();
        blot();
        bottle();
        drift();
        undo();
        look();
        written();
        who();
        dated();
        addedAt();
        next();
        soonest();
        likely();
        hands();
        forged();
        air();
        rain();
        measure();
        write();
        judge();
        tear();
        seed();
        keep();
        goBack();
        System.out.println(wrong == 0 ? "all promises hold" : wrong + " answers are not as due");
        if (wrong != 0) {
            System.exit(1);
        }
    }

    private static void newObject() {
        promise = 1;
        WeatherHand x = new WeatherHand();
        due("told(0)", x.told(0), 0);
        for (int what = 4; what <= 10; what++) {
            due("told(" + what + ")", x.told(what), what == 7 ? NONE : 0);
        }
        due("fault()", x.fault(), NONE);
        due("weather(0, 0)", x.weather(0, 0), NOT);
        due("hand(0, 0)", x.hand(0, 0), UNKNOWN);
        due("letter(0, -1, 0)", x.letter(0, NONE, 0), UNKNOWN);
        due("look(0, 0)", x.look(0, 0), UNKNOWN);
        due("hands(-1)", x.hands(NONE), 0);
        due("hands(0)", x.hands(0), UNKNOWN);
        due("judge()", x.judge(), NONE);
        due("tear()", x.tear(), 0);
        due("goBack(0)", x.goBack(0), NOT);
        due("undo(1)", x.undo(1), NOT);
        due("seed(0)", x.seed(0), 0);
    }

    private static void feed() {
        promise = 2;
        WeatherHand x = new WeatherHand();
        due("feed(-1)", x.feed(-1), OUTSIDE);
        due("feed(256)", x.feed(256), OUTSIDE);
        due("feed least", x.feed(LEAST), OUTSIDE);
        due("feed(0)", x.feed(0), 1);
        due("feed(255)", x.feed(255), 2);
        for (int k = 3; k <= 230; k++) {
            due("feed " + k, x.feed(' '), k);
        }
        due("feed the 231st", x.feed(' '), FULL);
        due("feed(256) when full", x.feed(256), OUTSIDE);
        due("told(6)", x.told(6), 230);
        due("valley()", x.valley(), -11);
        due("feed behind it", x.feed('v'), 1);
    }

    private static void valley() {
        promise = 3;
        reads("v7 9 12;", 0, NONE);
        reads("v0 0 0;h0 0 0;p0 0 1;p0 95 12;", 2, NONE);
        reads("  v 007 009 012 ; h 8 8 8;p 0 0 12 ;  ", 1, NONE);
        reads("v0 0 0;h0 0 0;p0 0 1;d9;", 1, NONE);
        reads("v0 0 0;d1 , 2,3,4,5,6,7,8;", 0, NONE);
        reads("", 0, NONE);
        reads("h0 0 0;", -11, 0);
        reads("  d1;", -11, 2);
        reads("1", -11, 0);
        reads(";", -11, 0);
        reads("x", -11, 0);
        reads("v", -11, 1);
        reads("v ", -11, 2);
        reads("v0", -11, 2);
        reads("v0 0", -11, 4);
        reads("v0 0 0", -11, 6);
        reads("v0 0 0 ", -11, 7);
        reads("v0 0 0 0;", -11, 7);
        reads("v0 0 0 4444;", -11, 7);
        reads("v0,0 0;", -11, 2);
        reads("v0 0 0;;", -11, 7);
        reads("v0 0 0;v", -13, 7);
        reads("v0 0 0;x", -11, 7);
        reads("v0 0 0;V", -11, 7);
        reads("v00 0 0000;", -12, 6);
        reads("v0001 0 0;", -12, 1);
        reads("v1000 0 0;", -12, 1);
        reads("v00000000000000000000 0 0;", -12, 1);
        reads("v99999999999999999999 0 0;", -12, 1);
        reads("v8", -12, 1);
        reads("v0 10", -12, 3);
        reads("v0 0 13", -12, 5);
        reads("v123;", -12, 1);
        reads("v0 0 0;d;", -11, 8);
        reads("v0 0 0;d,", -11, 8);
        reads("v0 0 0;d1 2;", -11, 10);
        reads("v0 0 0;d1,10;", -12, 10);
        reads("v0 0 0;d1,2", -11, 11);
        reads("v0 0 0;d1,1,1,1,1,1,1,1 ,", -11, 24);
        reads("v0 0 0;d0;d", -13, 10);
        reads("v0 0 0;h0 0 9;", -12, 12);
        reads("v0 0 0;h0 0;", -11, 11);
        reads("v0 0 0;h0 0 0;h0 0 0;h0 0 0;h0 0 0;h", -13, 35);
        reads("v0 0 0;p0 0 1;", -12, 8);
        reads("v0 0 0;h0 0 0;p1 0 1;", -12, 15);
        reads("v0 0 0;h0 0 0;p0 96 1;", -12, 17);
        reads("v0 0 0;h0 0 0;p0 0 0;", -12, 19);
        reads("v0 0 0;h0 0 0;p0 0 13;", -12, 19);
        reads("v0 0 0;h0 0 0;p0 0 12,", -11, 21);
        reads("v0 0 0;h0 0 0;p0 0 1;p0 0 1;p0 0 1;p0 0 1;p", -13, 42);
        reads("v0 0 0;h0 0 0;p0 0 1;p0 0 1;p0 0 1;p0 0 1;h0 0 0;", 4, NONE);
        reads("v0 0 0;p", -11, 8);
        reads("v0\t0 0;", -11, 2);
        reads("v0 0 \u00ff;", -11, 5);
    }

    private static void valleyClearsAndKeeps() {
        promise = 3;
        WeatherHand x = of(VALLEY);
        x.seed(77);
        x.bottle(5);
        x.add(0, 0, 0, true);
        x.measure(0, 0);
        x.write(0, 0, 1);
        x.keep(0);
        x.add(0, 0, 0, false);
        tell(x, "d");
        due("valley() with a fault", x.valley(), -11);
        due("told(7)", x.told(7), 5);
        due("told(8)", x.told(8), 8);
        due("told(9)", x.told(9), 1);
        due("told(10)", x.told(10), 1);
        due("letter(0, 0, 3)", x.letter(0, 0, 3), 1);
        due("goBack(0)", x.goBack(0), 1);
        x.add(0, 0, 0, false);
        tell(x, VALLEY);
        due("valley()", x.valley(), 2);
        due("told(7)", x.told(7), NONE);
        due("told(8)", x.told(8), 6);
        due("told(9)", x.told(9), 0);
        due("told(10)", x.told(10), 0);
        due("letter(0, 0, 3)", x.letter(0, 0, 3), 0);
        due("goBack(0)", x.goBack(0), NOT);
        due("undo(1)", x.undo(1), NOT);
        due("seed(0)", x.seed(0), 77);
        due("valley() of an empty text", x.valley(), 0);
        due("told(0) without a valley", x.told(0), 0);
        for (int what = 4; what <= 10; what++) {
            due("told(" + what + ") without a valley", x.told(what), what == 7 ? NONE : 0);
        }
        due("look(0, 0) without a valley", x.look(0, 0), UNKNOWN);
    }

    private static void fault() {
        promise = 4;
        WeatherHand x = of(VALLEY);
        due("fault()", x.fault(), NONE);
        tell(x, "v0 0 0;q");
        due("fault() ahead of valley()", x.fault(), NONE);
        x.valley();
        due("fault()", x.fault(), 7);
        due("fault() again", x.fault(), 7);
        x.feed('v');
        due("fault() behind feed", x.fault(), 7);
        x.valley();
        due("fault() at the end", x.fault(), 1);
        x.valley();
        due("fault() of an empty text", x.fault(), NONE);
    }

    private static void told() {
        promise = 5;
        WeatherHand x = of(VALLEY);
        int[] want = {1, 3, 2, 10, 3, 2, 0, NONE, 6, 0, 0};
        for (int what = 0; what <= 10; what++) {
            due("told(" + what + ")", x.told(what), want[what]);
        }
        due("told(-1)", x.told(-1), OUTSIDE);
        due("told(11)", x.told(11), OUTSIDE);
        x.feed(' ');
        x.bottle(0);
        x.add(1, 1, 1, true);
        x.write(0, 0, 0);
        due("told(6)", x.told(6), 1);
        due("told(7)", x.told(7), 0);
        due("told(8)", x.told(8), 7);
        due("told(9)", x.told(9), 1);
        due("told(10)", x.told(10), 2);
    }

    private static void weather() {
        promise = 6;
        WeatherHand x = of(VALLEY);
        due("weather(9, 0)", x.weather(9, 0), 3);
        due("weather(95, 0)", x.weather(95, 0), 5);
        due("weather(9, 1)", x.weather(9, 1), 3);
        due("weather(11, 1)", x.weather(11, 1), 5);
        due("weather(12, 1)", x.weather(12, 1), 2);
        due("weather(35, 1)", x.weather(35, 1), 9);
        due("weather(36, 1)", x.weather(36, 1), 3);
        due("weather(9, 2)", x.weather(9, 2), 1);
        due("weather(10, 2)", x.weather(10, 2), 0);
        due("weather(12, 2)", x.weather(12, 2), 1);
        due("weather(-1, 0)", x.weather(-1, 0), OUTSIDE);
        due("weather(96, 0)", x.weather(96, 0), OUTSIDE);
        due("weather(0, -1)", x.weather(0, -1), OUTSIDE);
        due("weather(0, 3)", x.weather(0, 3), OUTSIDE);
        WeatherHand none = new WeatherHand();
        due("weather(0, 0) of none", none.weather(0, 0), NOT);
        due("weather(96, 0) of none", none.weather(96, 0), OUTSIDE);
        due("weather(0, 3) of none", none.weather(0, 3), OUTSIDE);
        WeatherHand dark = of("v0 9 0;");
        due("damp of a dark day, no rain told", dark.weather(0, 1), 10);
        due("damp of nine dark hours", dark.weather(8, 1), 18);
        due("damp of ten dark hours", dark.weather(9, 1), 19);
        due("damp is 19 at most", dark.weather(11, 1), 19);
        WeatherHand light = of("v0 9 12;d0,1,2,3,4,5,6,7;");
        due("damp of a light day", light.weather(95, 1), 16);
        due("light of the day's last hour", light.weather(95, 2), 1);
    }

    private static void hand() {
        promise = 7;
        WeatherHand x = of(VALLEY);
        due("hand(0, 0)", x.hand(0, 0), 0);
        due("hand(0, 1)", x.hand(0, 1), 1);
        due("hand(2, 2)", x.hand(2, 2), 7);
        due("hand(2, 0)", x.hand(2, 0), 3);
        due("hand(3, 0)", x.hand(3, 0), UNKNOWN);
        due("hand(-1, 0)", x.hand(-1, 0), UNKNOWN);
        due("hand(0, 3)", x.hand(0, 3), OUTSIDE);
        due("hand(0, -1)", x.hand(0, -1), OUTSIDE);
        due("hand(3, 3)", x.hand(3, 3), UNKNOWN);
    }

    private static void letter() {
        promise = 8;
        WeatherHand x = of(VALLEY);
        due("letter(0, 0, 0)", x.letter(0, 0, 0), 3022);
        due("letter(0, 1, 0)", x.letter(0, 1, 0), 6034);
        due("letter(0, 2, 0)", x.letter(0, 2, 0), 1034);
        due("letter(0, 3, 0)", x.letter(0, 3, 0), 4022);
        due("letter(1, 0, 0)", x.letter(1, 0, 0), 5019);
        due("letter(1, 1, 0)", x.letter(1, 1, 0), 8029);
        due("letter(1, 2, 0)", x.letter(1, 2, 0), UNKNOWN);
        due("letter(1, 1, 1)", x.letter(1, 1, 1), 95);
        due("letter(1, 1, 2)", x.letter(1, 1, 2), 2);
        due("letter(1, 1, 3)", x.letter(1, 1, 3), 0);
        due("letter(1, 1, 4)", x.letter(1, 1, 4), 0);
        due("letter(1, 1, 5)", x.letter(1, 1, 5), OUTSIDE);
        due("letter(1, 1, -1)", x.letter(1, 1, -1), OUTSIDE);
        due("letter(1, -2, 0)", x.letter(1, -2, 0), UNKNOWN);
        due("letter(1, 2, 9)", x.letter(1, 2, 9), UNKNOWN);
        due("letter(2, -1, 0)", x.letter(2, NONE, 0), UNKNOWN);
        due("letter(-1, 0, 0)", x.letter(-1, 0, 0), UNKNOWN);
        due("letter(2, -1, 9)", x.letter(2, NONE, 9), UNKNOWN);
        due("letter(0, -1, 0)", x.letter(0, NONE, 0), 4);
        due("letter(0, -1, 1)", x.letter(0, NONE, 1), 0);
        due("letter(0, -1, 2)", x.letter(0, NONE, 2), OUTSIDE);
        due("letter(0, -1, -1)", x.letter(0, NONE, -1), OUTSIDE);
        x.bottle(9);
        x.add(0, 1, 33, true);
        x.measure(0, 4);
        due("letter(0, 4, 0)", x.letter(0, 4, 0), 2098);
        due("letter(0, 4, 1)", x.letter(0, 4, 1), 33);
        due("letter(0, 4, 2)", x.letter(0, 4, 2), 1);
        due("letter(0, 4, 3)", x.letter(0, 4, 3), 1);
        due("letter(0, 4, 4)", x.letter(0, 4, 4), 1);
        due("letter(0, -1, 1)", x.letter(0, NONE, 1), 1);
    }

    private static void add() {
        promise = 9;
        WeatherHand x = of(VALLEY);
        due("add(2, 0, 0, false)", x.add(2, 0, 0, false), UNKNOWN);
        due("add(-1, 0, 0, false)", x.add(-1, 0, 0, false), UNKNOWN);
        due("add(0, 3, 0, false)", x.add(0, 3, 0, false), UNKNOWN);
        due("add(0, -1, 96, true)", x.add(0, -1, 96, true), UNKNOWN);
        due("add(0, 0, 96, true)", x.add(0, 0, 96, true), OUTSIDE);
        due("add(0, 0, -1, false)", x.add(0, 0, -1, false), OUTSIDE);
        due("add(0, 0, 0, true)", x.add(0, 0, 0, true), NOT);
        due("told(10) behind refusals", x.told(10), 0);
        for (int k = 5; k <= 12; k++) {
            due("add to " + k, x.add(0, 0, 95, false), k);
        }
        due("add the 13th", x.add(0, 0, 95, false), FULL);
        due("add the 13th from an empty bottle", x.add(0, 0, 95, true), NOT);
        due("add the 13th at 96", x.add(0, 0, 96, false), OUTSIDE);
        due("told(10)", x.told(10), 8);
        x.bottle(0);
        due("add the 13th from the bottle", x.add(0, 0, 95, true), FULL);
        due("add(1, 1, 0, true)", x.add(1, 1, 0, true), 3);
        due("forged at its own hour", x.letter(1, 2, 4), 1);
        due("add(1, 1, 0, false)", x.add(1, 1, 0, false), 4);
        due("not asked for", x.letter(1, 3, 4), 0);
        due("the bottle stays", x.told(7), 0);
    }

    private static void blot() {
        promise = 10;
        WeatherHand x = of(VALLEY);
        due("blot(2)", x.blot(2), UNKNOWN);
        due("blot(-1)", x.blot(-1), UNKNOWN);
        due("blot(1)", x.blot(1), 8029);
        due("blot(1)", x.blot(1), 5019);
        due("blot(1)", x.blot(1), NOT);
        due("told(8)", x.told(8), 4);
        due("told(10)", x.told(10), 2);
    }

    private static void bottle() {
        promise = 11;
        WeatherHand none = new WeatherHand();
        due("bottle(0) of none", none.bottle(0), NOT);
        due("bottle(-1) of none", none.bottle(NONE), NOT);
        due("bottle(96) of none", none.bottle(96), OUTSIDE);
        WeatherHand x = of("v0 0 0;");
        due("bottle(96)", x.bottle(96), OUTSIDE);
        due("bottle(-2)", x.bottle(-2), OUTSIDE);
        due("bottle(0)", x.bottle(0), NONE);
        due("bottle(95)", x.bottle(95), 0);
        due("bottle(-1)", x.bottle(NONE), 95);
        due("bottle(-1)", x.bottle(NONE), NONE);
        due("told(10)", x.told(10), 4);
    }

    private static void drift() {
        promise = 12;
        due("drift(1) of none", new WeatherHand().drift(1), NOT);
        due("drift(0) of none", new WeatherHand().drift(0), OUTSIDE);
        due("drift(1) without papers", of("v0 0 0;h0 0 0;").drift(1), NOT);
        WeatherHand x = of(VALLEY);
        due("drift(0)", x.drift(0), OUTSIDE);
        due("drift(31)", x.drift(31), OUTSIDE);
        x.seed(123);
        long seed = 123;
        int[] drawn = new int[3];
        int[] of = {2, 3, 96};
        for (int k = 0; k < 3; k++) {
            seed = (seed * 1103515245L + 12345L) % 2147483648L;
            drawn[k] = (int) (seed / 65536 % of[k]);
        }
        int place = drawn[0] == 0 ? 4 : 2;
        due("drift(1)", x.drift(1), 7);
        due("drawn hour", x.letter(drawn[0], place, 1), drawn[2]);
        due("drawn hand", x.letter(drawn[0], place, 2), drawn[1]);
        due("told(10)", x.told(10), 1);
        x.bottle(3);
        due("drift(30)", x.drift(30), 24);
        due("none from the bottle", x.letter(0, NONE, 1) + x.letter(1, NONE, 1), 0);
        due("only what was added can be undone", x.told(10), 19);
        due("drift of full papers", x.drift(30), 24);
        due("nothing was added", x.told(10), 19);
        for (int k = 0; k < 180; k++) {
            seed = (seed * 1103515245L + 12345L) % 2147483648L;
        }
        due("the seed of each draw", x.seed(0), (int) seed);
    }

    private static void undo() {
        promise = 13;
        WeatherHand x = of(VALLEY);
        due("undo(0)", x.undo(0), OUTSIDE);
        due("undo(31)", x.undo(31), OUTSIDE);
        due("undo(1)", x.undo(1), NOT);
        x.bottle(9);
        x.add(0, 1, 33, true);
        x.bottle(NONE);
        x.blot(0);
        x.blot(0);
        due("undo(6)", x.undo(6), NOT);
        due("undo(2)", x.undo(2), 7);
        due("what was blotted is forged again", x.letter(0, 4, 0), 2098);
        due("its hour", x.letter(0, 4, 1), 33);
        due("its hand", x.letter(0, 4, 2), 1);
        due("its air", x.letter(0, 4, 4), 1);
        due("told(7)", x.told(7), NONE);
        due("undo(1)", x.undo(1), 7);
        due("told(7)", x.told(7), 9);
        due("undo(2)", x.undo(2), 6);
        due("told(7)", x.told(7), NONE);
        due("told(10)", x.told(10), 0);
        for (int k = 0; k < 35; k++) {
            x.bottle(k);
        }
        due("30 at most are kept", x.told(10), 30);
        due("undo(30)", x.undo(30), 6);
        due("told(7)", x.told(7), 4);
        due("undo(1)", x.undo(1), NOT);
        x.seed(5);
        x.drift(3);
        int seed = x.seed(0);
        x.seed(seed);
        due("undo(3) of draws", x.undo(3), 6);
        due("the seed stays", x.seed(0), seed);
    }

    private static void look() {
        promise = 14;
        WeatherHand x = of(VALLEY);
        due("look(0, 9)", x.look(0, 9), 3022);
        due("look(1, 0)", x.look(1, 0), 8098);
        due("look(1, 11)", x.look(1, 11), 109);
        due("look(2, 95)", x.look(2, 95), 8029);
        due("look(3, 0)", x.look(3, 0), UNKNOWN);
        due("look(-1, 96)", x.look(-1, 96), UNKNOWN);
        due("look(0, 96)", x.look(0, 96), OUTSIDE);
        due("look(0, -1)", x.look(0, -1), OUTSIDE);
        due("full is 15 at most", of("v0 9 0;d9;h0 8 8;").look(0, 11), 159);
    }

    private static void written() {
        promise = 15;
        WeatherHand x = of(VALLEY);
        int[] hours = {1, 9, 17, 41, 49, 57, 73, 81, 89};
        due("written(0, 0, 0, -1)", x.written(0, 0, 0, NONE), 9);
        for (int i = 0; i < 9; i++) {
            due("written(0, 0, 0, " + i + ")", x.written(0, 0, 0, i), hours[i]);
        }
        due("written(0, 0, 0, 9)", x.written(0, 0, 0, 9), NONE);
        due("written(0, 0, 0, -2)", x.written(0, 0, 0, -2), NONE);
        due("written(0, 0, 0, least)", x.written(0, 0, 0, LEAST), NONE);
        due("written(0, 0, 0, most)", x.written(0, 0, 0, MOST), NONE);
        due("written(0, 0, 1, -1)", x.written(0, 0, 1, NONE), 0);
        due("written(0, 0, 1, 0)", x.written(0, 0, 1, 0), NONE);
        due("written(0, 0, 3, 0)", x.written(0, 0, 3, 0), UNKNOWN);
        due("written(0, 4, 0, 0)", x.written(0, 4, 0, 0), UNKNOWN);
        due("written(0, -1, 0, 0)", x.written(0, NONE, 0, 0), UNKNOWN);
        due("written(2, 0, 0, 0)", x.written(2, 0, 0, 0), UNKNOWN);
    }

    private static void who() {
        promise = 16;
        WeatherHand x = of(VALLEY);
        due("who(0, 0)", x.who(0, 0), 1);
        due("who(1, 1)", x.who(1, 1), 4);
        due("who(1, 2)", x.who(1, 2), UNKNOWN);
        due("who(1, -1)", x.who(1, NONE), UNKNOWN);
        due("who(2, 0)", x.who(2, 0), UNKNOWN);
        WeatherHand alike = of("v1 0 12;h0 0 0;h1 0 0;h0 1 0;h0 0 0;p0 1 1;");
        due("who of three hands", alike.who(0, 0), 11);
    }

    private static void dated() {
        promise = 17;
        WeatherHand x = of(VALLEY);
        due("dated(0, 0, 0)", x.dated(0, 0, 0), 2);
        due("dated(0, 0, 1)", x.dated(0, 0, 1), 9);
        due("dated(0, 0, 2)", x.dated(0, 0, 2), 81);
        due("dated(0, 1, 0)", x.dated(0, 1, 0), 0);
        due("dated(0, 1, 1)", x.dated(0, 1, 1), NONE);
        due("dated(0, 1, 2)", x.dated(0, 1, 2), NONE);
        due("dated(0, 0, 3)", x.dated(0, 0, 3), OUTSIDE);
        due("dated(0, 0, -1)", x.dated(0, 0, -1), OUTSIDE);
        due("dated(2, 0, 3)", x.dated(2, 0, 3), UNKNOWN);
        due("dated(0, 3, 3)", x.dated(0, 3, 3), UNKNOWN);
        WeatherHand still = of("v0 0 12;h0 0 0;p0 0 12;p0 0 1;");
        due("a row ends at 95", still.dated(0, 0, 2), 84);
        due("rows of twelve", still.dated(0, 0, 0), 85);
        still.blot(1);
        due("an empty paper", still.dated(1, 0, 0), 96);
        due("its last", still.dated(1, 0, 2), 95);
    }

    private static void addedAt() {
        promise = 18;
        WeatherHand x = of(VALLEY);
        due("addedAt(0, 0, 0)", x.addedAt(0, 0, 0), 4);
        due("addedAt(0, 0, 1)", x.addedAt(0, 0, 1), 1);
        x.add(0, 0, 50, false);
        due("addedAt(0, 0, 0)", x.addedAt(0, 0, 0), 4);
        due("addedAt(0, 0, 1)", x.addedAt(0, 0, 1), 2);
        x.add(0, 2, 50, false);
        due("addedAt(0, 0, 0)", x.addedAt(0, 0, 0), 4);
        due("addedAt(0, 0, 1)", x.addedAt(0, 0, 1), NONE);
        due("addedAt(0, 1, 0)", x.addedAt(0, 1, 0), 0);
        due("addedAt(0, 1, 1)", x.addedAt(0, 1, 1), NONE);
        x.blot(1);
        x.blot(1);
        due("addedAt(1, 0, 0)", x.addedAt(1, 0, 0), 0);
        due("addedAt(1, 0, 1)", x.addedAt(1, 0, 1), 0);
        due("addedAt(0, 0, 2)", x.addedAt(0, 0, 2), OUTSIDE);
        due("addedAt(0, 0, -1)", x.addedAt(0, 0, -1), OUTSIDE);
        due("addedAt(2, 0, 2)", x.addedAt(2, 0, 2), UNKNOWN);
        due("addedAt(0, 3, 2)", x.addedAt(0, 3, 2), UNKNOWN);
        WeatherHand still = of("v0 0 12;d0,0,0,0,0,0,0,2;h0 0 0;p0 95 1;");
        still.add(0, 0, 95, false);
        for (int k = 3; k <= 12; k++) {
            still.add(0, 0, 84, false);
        }
        due("the damp of the last day", still.addedAt(0, 0, 0), 12);
        still.blot(0);
        still.add(0, 0, 0, false);
        due("a row of the last day and one more", still.addedAt(0, 0, 1), 2);
    }

    private static void next() {
        promise = 19;
        WeatherHand x = of(VALLEY);
        due("next(0, 0)", x.next(0, 0), 279);
        due("next(1, 0)", x.next(1, 0), 285);
        x.measure(0, 0);
        due("next(0, 0) measured", x.next(0, 0), 9);
        due("next(0, 1) measured", x.next(0, 1), 1);
        due("next(1, 0) is another paper", x.next(1, 0), 285);
        x.measure(0, 1);
        due("next(0, 0) measured twice", x.next(0, 0), 2);
        due("next(0, 1) measured twice", x.next(0, 1), NONE);
        due("next(2, 2)", x.next(2, 2), UNKNOWN);
        due("next(-1, 0)", x.next(-1, 0), UNKNOWN);
        due("next(0, 2)", x.next(0, 2), OUTSIDE);
        due("next(0, -1)", x.next(0, -1), OUTSIDE);
        x.blot(0);
        x.blot(0);
        x.blot(0);
        due("a measured place without its letter", x.next(0, 0), 9);
        x.blot(0);
        due("an empty paper", x.next(0, 0), 288);
        due("its letter", x.next(0, 1), NONE);
        x.bottle(0);
        x.add(1, 1, 0, true);
        x.measure(1, 0);
        x.measure(1, 2);
        due("none fits", x.next(1, 0), 0);
        due("none to part", x.next(1, 1), NONE);
        due("like ones: the least", of("v1 0 12;h0 0 0;p0 0 3;").next(0, 1), 0);
        due("none parts", of("v0 0 12;h0 0 0;p0 0 3;").next(0, 1), NONE);
    }

    private static void soonest() {
        promise = 20;
        WeatherHand x = of(VALLEY);
        due("soonest(0, 3022, 0)", x.soonest(0, 3022, 0), 1);
        due("soonest(0, 3022, 1)", x.soonest(0, 3022, 1), 1);
        due("soonest(0, 3022, 2)", x.soonest(0, 3022, 2), 9);
        due("soonest(0, 3022, 90)", x.soonest(0, 3022, 90), NONE);
        due("soonest(2, 8029, 95)", x.soonest(2, 8029, 95), 95);
        due("soonest(0, 9999, 0)", x.soonest(0, 9999, 0), NONE);
        due("soonest(0, 0, 0)", x.soonest(0, 0, 0), NONE);
        due("soonest(0, 10000, 0)", x.soonest(0, 10000, 0), OUTSIDE);
        due("soonest(0, -1, 0)", x.soonest(0, -1, 0), OUTSIDE);
        due("soonest(0, 0, 96)", x.soonest(0, 0, 96), OUTSIDE);
        due("soonest(0, 0, -1)", x.soonest(0, 0, -1), OUTSIDE);
        due("soonest(3, -1, -1)", x.soonest(3, -1, -1), UNKNOWN);
    }

    private static void likely() {
        promise = 21;
        WeatherHand x = of(VALLEY);
        due("likely(0, 3022)", x.likely(0, 3022), 93750);
        due("likely(0, 9999)", x.likely(0, 9999), 0);
        due("likely(0, 10000)", x.likely(0, 10000), OUTSIDE);
        due("likely(0, -1)", x.likely(0, -1), OUTSIDE);
        due("likely(3, -1)", x.likely(3, -1), UNKNOWN);
        due("likely all", of("v0 0 12;h0 0 0;").likely(0, 0), 1000000);
        due("likely one", of("v0 0 12;d0,0,0,0,0,0,0,2;h0 0 0;").likely(0, 10), 125000);
    }

    private static void hands() {
        promise = 22;
        WeatherHand x = of(VALLEY);
        due("hands(-1)", x.hands(NONE), 6);
        due("hands(0)", x.hands(0), 0);
        due("hands(1)", x.hands(1), 2);
        due("hands(2)", x.hands(2), UNKNOWN);
        due("hands(-2)", x.hands(-2), UNKNOWN);
        for (int k = 0; k < 6; k++) {
            x.blot(k < 4 ? 0 : 1);
        }
        due("hands(-1) of empty papers", x.hands(NONE), 0);
        due("hands(0) of empty papers", x.hands(0), 0);
        due("hands(1) of empty papers", x.hands(1), 1);
        WeatherHand alike = of("v0 0 12;h1 1 1;h1 1 1;p1 0 2;p0 5 3;");
        due("like hands: all", alike.hands(NONE), 5);
        due("like hands: the lesser first", alike.hands(0), 0);
        due("like hands: the other", alike.hands(1), 1);
        WeatherHand few = of("v0 0 12;h1 1 1;p0 0 2;p0 5 3;");
        due("more papers than hands", few.hands(NONE), NONE);
        due("more papers than hands: a paper", few.hands(0), NONE);
        due("more papers than hands: no paper", few.hands(2), UNKNOWN);
        WeatherHand both = of("v0 0 12;h1 1 1;h2 2 2;p0 0 2;p0 5 3;");
        due("a hand has one paper", both.hands(NONE), 3);
        due("the paper that gains less", both.hands(0), 1);
        due("the paper that gains more", both.hands(1), 0);
        WeatherHand airy = of("v1 0 12;h0 0 0;h1 0 0;p0 0 1;");
        airy.blot(0);
        airy.bottle(1);
        airy.add(0, 0, 0, true);
        due("a forged letter at the hour told", airy.hands(0), 1);
        due("no papers", of("v0 0 0;h0 0 0;").hands(NONE), 0);
    }

    private static void forged() {
        promise = 23;
        WeatherHand x = of(VALLEY);
        due("forged(0, 0)", x.forged(0, 0), 0);
        due("forged(0, 1)", x.forged(0, 1), 0);
        x.bottle(9);
        x.add(0, 1, 33, true);
        x.add(0, 1, 17, true);
        due("forged(0, 0)", x.forged(0, 0), 1);
        due("forged(0, 1)", x.forged(0, 1), 16);
        due("forged(1, 0)", x.forged(1, 0), 0);
        due("forged(2, 2)", x.forged(2, 2), UNKNOWN);
        due("forged(0, 2)", x.forged(0, 2), OUTSIDE);
        due("forged(0, -1)", x.forged(0, -1), OUTSIDE);
    }

    private static void air() {
        promise = 24;
        WeatherHand x = of(VALLEY);
        due("air(0, 9, -1)", x.air(0, 9, NONE), 9);
        due("air(0, 9, 0)", x.air(0, 9, 0), 1);
        due("air(0, 9, 8)", x.air(0, 9, 8), 89);
        due("air(0, 9, 9)", x.air(0, 9, 9), NONE);
        due("air(0, 9, -2)", x.air(0, 9, -2), NONE);
        due("air(3, 96, 0)", x.air(3, 96, 0), UNKNOWN);
        due("air(0, 96, 0)", x.air(0, 96, 0), OUTSIDE);
        due("air(0, -1, 0)", x.air(0, -1, 0), OUTSIDE);
    }

    private static void rain() {
        promise = 25;
        WeatherHand x = of(VALLEY);
        due("rain(0)", x.rain(0), 2);
        due("rain(1)", x.rain(1), 3);
        due("rain(2)", x.rain(2), 1023);
        due("rain(7)", x.rain(7), 1);
        due("rain(8)", x.rain(8), OUTSIDE);
        due("rain(-1)", x.rain(-1), OUTSIDE);
        x.bottle(9);
        x.add(0, 0, 30, true);
        due("forged letters tell nothing", x.rain(2), 1023);
        x.add(0, 0, 30, false);
        due("damp 6 and 7", x.rain(2), 16 + 32);
        due("rain(0) of none", new WeatherHand().rain(0), NOT);
        due("rain(8) of none", new WeatherHand().rain(8), OUTSIDE);
    }

    private static void measure() {
        promise = 26;
        WeatherHand x = of(VALLEY);
        due("measure(0, 1)", x.measure(0, 1), 1);
        due("measure(0, 1)", x.measure(0, 1), 1);
        due("measure(0, 3)", x.measure(0, 3), 2);
        due("measure(1, 0)", x.measure(1, 0), 1);
        due("measure(0, 4)", x.measure(0, 4), UNKNOWN);
        due("measure(0, -1)", x.measure(0, NONE), UNKNOWN);
        due("measure(2, 0)", x.measure(2, 0), UNKNOWN);
        x.blot(0);
        due("places stay measured", x.measure(0, 0), 3);
        x.add(0, 1, 1, false);
        due("a new letter at the place", x.letter(0, 3, 3), 1);
    }

    private static void write() {
        promise = 27;
        WeatherHand x = of(VALLEY);
        due("write(2, 0, 0)", x.write(2, 0, 0), UNKNOWN);
        due("write(0, 12, 10000)", x.write(0, 12, 10000), UNKNOWN);
        due("write(0, -1, 0)", x.write(0, -1, 0), UNKNOWN);
        due("write(0, 0, 10000)", x.write(0, 0, 10000), OUTSIDE);
        due("write(0, 0, -1)", x.write(0, 0, -1), OUTSIDE);
        for (int k = 1; k <= 20; k++) {
            due("write " + k, x.write(k % 2, k % 12, k % 2 == 0 ? 0 : 9999), k);
        }
        due("write the 21st", x.write(0, 0, 0), FULL);
        due("write the 21st outside", x.write(0, 0, 10000), OUTSIDE);
        due("told(9)", x.told(9), 20);
    }

    private static void judge() {
        promise = 28;
        WeatherHand x = of(VALLEY);
        due("judge() of no book", x.judge(), NONE);
        x.write(0, 0, 3022);
        x.write(1, 1, 8029);
        due("judge()", x.judge(), NONE);
        x.write(1, 2, 8029);
        due("judge() of what is not there", x.judge(), 2);
        x.add(1, 2, 95, false);
        due("judge() when it is there", x.judge(), NONE);
        x.blot(1);
        x.write(0, 0, 3023);
        due("the first wrong", x.judge(), 2);
        x.blot(1);
        due("an earlier wrong", x.judge(), 1);
    }

    private static void tear() {
        promise = 29;
        WeatherHand x = of(VALLEY);
        x.measure(0, 0);
        x.measure(0, 3);
        x.measure(1, 1);
        x.write(0, 0, 0);
        x.blot(0);
        due("tear()", x.tear(), 4);
        due("told(9)", x.told(9), 0);
        due("letter(0, 0, 3)", x.letter(0, 0, 3), 0);
        due("judge()", x.judge(), NONE);
        due("tear() again", x.tear(), 0);
        due("told(10)", x.told(10), 1);
    }

    private static void seed() {
        promise = 30;
        WeatherHand x = new WeatherHand();
        due("seed(-1)", x.seed(-1), OUTSIDE);
        due("seed most", x.seed(MOST), 0);
        due("seed(5)", x.seed(5), MOST);
        due("seed(5)", x.seed(5), 5);
        WeatherHand y = of(VALLEY);
        y.seed(MOST);
        y.drift(1);
        long seed = MOST;
        for (int k = 0; k < 3; k++) {
            seed = (seed * 1103515245L + 12345L) % 2147483648L;
        }
        due("draws from the greatest seed", y.seed(0), (int) seed);
    }

    private static void keep() {
        promise = 31;
        WeatherHand x = of(VALLEY);
        x.add(0, 0, 0, false);
        due("keep(2)", x.keep(2), UNKNOWN);
        due("keep(-1)", x.keep(-1), UNKNOWN);
        due("told(10)", x.told(10), 1);
        due("keep(0)", x.keep(0), 1);
        due("nothing can be undone", x.told(10), 0);
        due("goBack(1)", x.goBack(1), NOT);
        x.blot(0);
        x.blot(0);
        due("keep(1)", x.keep(1), 1);
        due("goBack(0)", x.goBack(0), 1);
        due("told(8) of image 0", x.told(8), 7);
        due("goBack(1)", x.goBack(1), 1);
        due("told(8) of image 1", x.told(8), 5);
        due("keep(0) of none", new WeatherHand().keep(0), 1);
    }

    private static void goBack() {
        promise = 32;
        WeatherHand x = of(VALLEY);
        due("goBack(2)", x.goBack(2), UNKNOWN);
        due("goBack(-1)", x.goBack(-1), UNKNOWN);
        due("goBack(0)", x.goBack(0), NOT);
        x.seed(9);
        x.bottle(9);
        x.add(0, 1, 33, true);
        x.keep(0);
        x.seed(10);
        x.bottle(10);
        x.blot(0);
        x.add(0, 0, 0, false);
        x.measure(0, 4);
        x.write(0, 4, 2098);
        due("goBack(0)", x.goBack(0), 1);
        due("told(7)", x.told(7), 9);
        due("told(8)", x.told(8), 7);
        due("told(10)", x.told(10), 0);
        due("letter(0, 4, 0)", x.letter(0, 4, 0), 2098);
        due("letter(0, 4, 4)", x.letter(0, 4, 4), 1);
        due("what is measured stays", x.letter(0, 4, 3), 1);
        due("the book stays", x.told(9), 1);
        due("judge()", x.judge(), NONE);
        due("the seed goes back", x.seed(0), 9);
        x.add(1, 0, 0, false);
        due("goBack(0) again", x.goBack(0), 1);
        due("told(8)", x.told(8), 7);
    }
}
