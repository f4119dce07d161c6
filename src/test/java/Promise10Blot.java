/** "BLOTTED: the LOOK of what goes. UNKNOWN, NOT: no LETTER." */
public final class Promise10Blot extends Boundary {
    public static void main(String[] args) {
        run(Promise10Blot.class);
    }

    private static WeatherHand emptyPaper() {
        WeatherHand x = of(VALLEY);
        empty(x, 1);
        return x;
    }

    static void promise10_papersBelow0() {
        refused("blot(-1)", UNKNOWN, x -> x.blot(-1));
        refused("blot(least)", UNKNOWN, x -> x.blot(LEAST));
    }

    static void promise10_papersBeyondTheLast() {
        refused("blot(2)", UNKNOWN, x -> x.blot(2));
        refused("blot(most)", UNKNOWN, x -> x.blot(MOST));
    }

    static void promise10_anEmptyPaperIsNot() {
        refused(Promise10Blot::emptyPaper, "blot(1)", NOT, x -> x.blot(1));
    }

    static void promise10_theOnlyLetterGoes() {
        WeatherHand x = of(CALM + "p0 0 1;");
        due("blot(0)", x.blot(0), 0);
        due("letters", x.letter(0, NONE, 0), 0);
    }

    static void promise10_theLastOneGoes() {
        WeatherHand x = of(VALLEY);
        due("blot(0)", x.blot(0), 4022);
        due("blot(0) again", x.blot(0), 1034);
        due("letter(0, 1, 0)", x.letter(0, 1, 0), 6034);
        due("letter(0, 2, 0)", x.letter(0, 2, 0), UNKNOWN);
        due("the other paper", x.letter(1, NONE, 0), 2);
    }

    static void promise10_theTwelfthGoes() {
        WeatherHand x = of(WINDY + "p0 84 12;");
        due("blot(0)", x.blot(0), 7000);
        due("letters", x.letter(0, NONE, 0), 11);
    }

    static void promise10_aForgedLetterShowsItsAir() {
        WeatherHand x = of(WINDY + "p0 0 1;");
        x.bottle(3);
        x.add(0, 0, 5, true);
        due("blot(0)", x.blot(0), 3000);
    }

    static void promise10_aForgedPlaceIsFreeAgain() {
        WeatherHand x = of(WINDY + "p0 0 1;");
        x.bottle(3);
        x.add(0, 0, 5, true);
        x.blot(0);
        x.add(0, 0, 5, false);
        due("letter(0, 1, 0)", x.letter(0, 1, 0), 5000);
        due("letter(0, 1, 4)", x.letter(0, 1, 4), 0);
    }

    static void promise10_itIsADeed() {
        WeatherHand x = of(VALLEY);
        x.blot(0);
        due("told(10)", x.told(10), 1);
        due("undo(1)", x.undo(1), 6);
        due("letter(0, 3, 0)", x.letter(0, 3, 0), 4022);
    }
}
