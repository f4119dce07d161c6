/** LOOK of a HAND at an HOUR: 1000 times LEAN, 10 times FULL, and THICK. */
public final class Promise14Look extends Boundary {
    public static void main(String[] args) {
        run(Promise14Look.class);
    }

    static void promise14_handsBelow0() {
        refused("look(-1, 0)", UNKNOWN, x -> x.look(-1, 0));
        refused("look(least, 0)", UNKNOWN, x -> x.look(LEAST, 0));
    }

    static void promise14_handsBeyondTheLast() {
        refused("look(3, 0)", UNKNOWN, x -> x.look(3, 0));
        refused("look(most, 0)", UNKNOWN, x -> x.look(MOST, 0));
    }

    static void promise14_hoursBelow0() {
        refused("look(0, -1)", OUTSIDE, x -> x.look(0, -1));
        refused("look(0, least)", OUTSIDE, x -> x.look(0, LEAST));
    }

    static void promise14_hoursAbove95() {
        refused("look(0, 96)", OUTSIDE, x -> x.look(0, 96));
        refused("look(0, most)", OUTSIDE, x -> x.look(0, MOST));
        refused("look(2, 96)", OUTSIDE, x -> x.look(2, 96));
    }

    static void promise14_unknownComesAheadOfOutside() {
        refused("look(3, 96)", UNKNOWN, x -> x.look(3, 96));
        refused("look(-1, -1)", UNKNOWN, x -> x.look(-1, -1));
    }

    static void promise14_hours0And95() {
        WeatherHand x = of(EDGES);
        due("look(0, 0)", x.look(0, 0), 40);
        due("look(0, 95)", x.look(0, 95), 7042);
    }

    static void promise14_theFourthHand() {
        WeatherHand x = of("v1 0 12;h0 0 0;h0 0 0;h0 0 0;h4 3 2;");
        due("look(3, 0)", x.look(3, 0), 4032);
        due("look(3, 95)", x.look(3, 95), 2032);
        due("look(0, 95)", x.look(0, 95), 7000);
    }

    static void promise14_leanLeavesOverBy9() {
        WeatherHand x = of("v7 0 12;h8 0 0;h2 0 0;");
        due("8 and 0", x.look(0, 0), 8000);
        due("8 and 7", x.look(0, 1), 6000);
        due("2 and 7", x.look(1, 1), 0);
        due("2 and 6", x.look(1, 2), 8000);
        due("8 and 1", x.look(0, 7), 0);
    }

    static void promise14_fullIs15AtMost() {
        due("8 and 12 / 2", of("v0 3 12;d9;h0 8 0;").look(0, 0), 140);
        due("8 and 14 / 2", of("v0 5 12;d9;h0 8 0;").look(0, 0), 150);
        due("8 and 16 / 2", of("v0 7 12;d9;h0 8 0;").look(0, 0), 150);
        due("8 and 19 / 2", of("v0 9 0;d9;h0 8 0;").look(0, 11), 152);
    }

    static void promise14_fullOfTheMostDamp() {
        // 19 / 2 is 9: without the bound of 19 it would be 10 and more
        due("0 and 19 / 2", of("v0 9 0;d9;h0 0 0;").look(0, 11), 92);
    }

    static void promise14_fullCutsTowards0() {
        due("3 / 2", of("v0 3 12;h0 0 0;").look(0, 0), 10);
        due("1 / 2", of("v0 1 12;h0 0 0;").look(0, 0), 0);
        due("1 and 1 / 2", of("v0 1 12;h0 1 0;").look(0, 0), 10);
    }

    static void promise14_thickIs9AtMost() {
        due("8 in the light", of("v0 0 12;h0 0 8;").look(0, 0), 8);
        due("7 in the dark", of("v0 0 0;h0 0 7;").look(0, 0), 9);
        due("8 in the dark", of("v0 0 0;h0 0 8;").look(0, 0), 9);
        due("0 in the dark", of("v0 0 0;h0 0 0;").look(0, 0), 2);
    }

    static void promise14_theGreatestLook() {
        due("look(0, 11)", of("v0 9 0;d9;h8 8 8;").look(0, 11), 8159);
    }

    static void promise14_itChangesNothing() {
        changesNothing("look(0, 0)", x -> x.look(0, 0));
    }
}
