/** "No VALLEY": what that means for each thing there could be. */
public final class Promise01NewObject extends Boundary {
    public static void main(String[] args) {
        run(Promise01NewObject.class);
    }

    static void promise01_noValley() {
        due("told(0)", new WeatherHand().told(0), 0);
    }

    static void promise01_noHand() {
        WeatherHand x = new WeatherHand();
        due("told(4)", x.told(4), 0);
        due("hand(0, 0)", x.hand(0, 0), UNKNOWN);
        due("look(0, 0)", x.look(0, 0), UNKNOWN);
        due("soonest(0, 0, 0)", x.soonest(0, 0, 0), UNKNOWN);
        due("likely(0, 0)", x.likely(0, 0), UNKNOWN);
        due("air(0, 0, 0)", x.air(0, 0, 0), UNKNOWN);
    }

    static void promise01_noPaper() {
        WeatherHand x = new WeatherHand();
        due("told(5)", x.told(5), 0);
        due("told(8)", x.told(8), 0);
        due("letter(0, -1, 0)", x.letter(0, NONE, 0), UNKNOWN);
        due("letter(0, 0, 0)", x.letter(0, 0, 0), UNKNOWN);
        due("add(0, 0, 0, false)", x.add(0, 0, 0, false), UNKNOWN);
        due("blot(0)", x.blot(0), UNKNOWN);
        due("written(0, 0, 0, 0)", x.written(0, 0, 0, 0), UNKNOWN);
        due("who(0, 0)", x.who(0, 0), UNKNOWN);
        due("dated(0, 0, 0)", x.dated(0, 0, 0), UNKNOWN);
        due("addedAt(0, 0, 0)", x.addedAt(0, 0, 0), UNKNOWN);
        due("next(0, 0)", x.next(0, 0), UNKNOWN);
        due("hands(0)", x.hands(0), UNKNOWN);
        due("forged(0, 0)", x.forged(0, 0), UNKNOWN);
        due("measure(0, 0)", x.measure(0, 0), UNKNOWN);
        due("write(0, 0, 0)", x.write(0, 0, 0), UNKNOWN);
    }

    static void promise01_whatNeedsAValleyIsNotNow() {
        WeatherHand x = new WeatherHand();
        due("weather(0, 0)", x.weather(0, 0), NOT);
        due("bottle(0)", x.bottle(0), NOT);
        due("drift(1)", x.drift(1), NOT);
        due("rain(0)", x.rain(0), NOT);
    }

    static void promise01_theTextIsEmpty() {
        WeatherHand x = new WeatherHand();
        due("told(6)", x.told(6), 0);
        due("feed(118)", x.feed('v'), 1);
    }

    static void promise01_theBottleIsEmpty() {
        due("told(7)", new WeatherHand().told(7), NONE);
    }

    static void promise01_theBookIsEmpty() {
        WeatherHand x = new WeatherHand();
        due("told(9)", x.told(9), 0);
        due("judge()", x.judge(), NONE);
        due("tear()", x.tear(), 0);
    }

    static void promise01_nothingCanBeUndone() {
        WeatherHand x = new WeatherHand();
        due("told(10)", x.told(10), 0);
        due("undo(1)", x.undo(1), NOT);
    }

    static void promise01_noFaultYet() {
        due("fault()", new WeatherHand().fault(), NONE);
    }

    static void promise01_theSeedIs0AtFirst() {
        due("seed(5)", new WeatherHand().seed(5), 0);
    }

    static void promise01_noImageWasKept() {
        WeatherHand x = new WeatherHand();
        due("goBack(0)", x.goBack(0), NOT);
        due("goBack(1)", x.goBack(1), NOT);
    }

    static void promise01_objectsShareNothing() {
        WeatherHand first = busy();
        WeatherHand second = new WeatherHand();
        due("told(0) of the second", second.told(0), 0);
        due("told(6) of the second", second.told(6), 0);
        due("seed(1) of the second", second.seed(1), 0);
        due("goBack(0) of the second", second.goBack(0), NOT);
        feed(second, CALM);
        second.valley();
        due("told(1) of the first", first.told(1), 3);
        due("told(8) of the first", first.told(8), 8);
        due("seed(0) of the first", first.seed(0), 78);
    }

    static void promise01_the512thCallIsAnswered() {
        WeatherHand x = of(VALLEY);
        int calls = VALLEY.length() + 1;
        for (; calls < 509; calls++) {
            x.bottle(calls % 96);
        }
        due("call 510: bottle(-1)", x.bottle(NONE), 508 % 96);
        due("call 511: undo(30)", x.undo(30), 6);
        due("call 512: told(7)", x.told(7), 479 % 96);
    }

    static void promise01_theConstants() {
        due("NONE", WeatherHand.NONE, NONE);
        due("UNKNOWN", WeatherHand.UNKNOWN, UNKNOWN);
        due("OUTSIDE", WeatherHand.OUTSIDE, OUTSIDE);
        due("NOT", WeatherHand.NOT, NOT);
        due("FULL", WeatherHand.FULL, FULL);
    }
}
