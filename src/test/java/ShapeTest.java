/** Promises 38 to 43 and 48 to 50: BEVELS, PLANKS, what floats. */
public final class ShapeTest {

    private static final Checks C = new Checks("ShapeTest");

    public static void main(String[] args) {
        bevels();
        widths();
        lengths();
        planks();
        planksRefused();
        volumes();
        centres();
        carried();
        C.end();
    }

    private static void bevels() {
        FairLines x = Checks.withBook("row 1 2 3;row 5 5 5;row 9 2 0;row 0 0 6;space 4;");
        C.fraction("8 by 8", x, x.bevel(8), 1, 1);
        C.fraction("0 by 8", x, x.bevel(9), 0, 1);
        C.fraction("-3 by 8", x, x.bevel(10), -3, 8);
        C.fraction("-5 by 8", x, x.bevel(16), -5, 8);
        C.fraction("1 by 8", x, x.bevel(18), 1, 8);
        C.refused("the first STATION", x, x.bevel(2), 6);
        C.refused("the last STATION", x, x.bevel(26), 6);
        C.refused("no POINT", x, x.bevel(11), 1);
        C.refused("no POINT", x, x.bevel(-1), 1);
        C.due("top stays", x.top(), 1);
        C.due("bottom stays", x.bottom(), 8);
    }

    private static void widths() {
        FairLines x = Checks.withBook("row 0 4 1 1;row 9 0 999 0;rise 3;");
        C.answered("3 and 4", x, x.width(0, 0), 5);
        C.answered("3 and 3, rounded down", x, x.width(1, 0), 4);
        C.answered("3 and 0", x, x.width(2, 0), 3);
        C.answered("3 and 9, rounded down", x, x.width(0, 1), 9);
        C.answered("3 and 999", x, x.width(1, 1), 999);
        C.refused("no STRIP", x, x.width(3, 0), 1);
        C.refused("no STRIP", x, x.width(-1, 0), 1);
        C.refused("no STATION", x, x.width(0, 2), 1);
        C.refused("no STATION", x, x.width(0, -1), 1);
        FairLines wide = Checks.withBook("row 0 999 0;rise 999;");
        C.answered("999 and 999", wide, wide.width(0, 0), 1412);
        FairLines none = new FairLines();
        C.refused("none at all", none, none.width(0, 0), 1);
    }

    private static void lengths() {
        FairLines x = Checks.withBook("row 0 1 0;row 4 1 0;row 4 2 0;space 3;");
        C.answered("5 and 3", x, x.length(0), 8);
        C.answered("3 and 3 (3.16)", x, x.length(1), 6);
        C.answered("3 and 3", x, x.length(2), 6);
        C.refused("no WATER", x, x.length(3), 1);
        C.refused("no WATER", x, x.length(-1), 1);
        C.answered("less", x, x.banana(0), -2);
        C.answered("alike", x, x.banana(1), 0);
        x.move(17, 5);
        C.answered("-1 tells no NONE", x, x.banana(0), 0);
        x.move(17, 4);
        C.answered("3 and 4 (4.24) less 8", x, x.banana(0), -1);
        C.refused("no STRIP", x, x.banana(2), 1);
        C.refused("no STRIP", x, x.banana(-1), 1);
        FairLines one = Checks.withBook("row 1 2 3;");
        C.answered("one STATION", one, one.length(0), 0);
    }

    private static void planks() {
        FairLines even = Checks.withBook("row 7 7 7 7;");
        C.refused("plank ahead of any", even, even.plank(0), 6);
        C.refused("WASTE ahead of any", even, even.plank(-1), 6);
        C.refused("below NONE", even, even.plank(-2), 1);
        C.answered("two of three STRIPS", even, even.planks(20), 2);
        C.answered("the lesser highest STRIP ahead", even, even.plank(0), 0);
        C.answered("the rest", even, even.plank(1), 2);
        C.answered("no WASTE", even, even.plank(-1), 0);
        C.refused("no third", even, even.plank(2), 6);
        C.answered("all in one", even, even.planks(30), 1);
        C.answered("its highest", even, even.plank(0), 2);
        C.answered("each alone", even, even.planks(19), 3);
        C.answered("the middle", even, even.plank(1), 1);
        C.refused("too wide", even, even.planks(9), 6);
        C.answered("the one ahead is told", even, even.plank(2), 2);
        // WIDTHS 5, 3, 5 and 3, 5, 5: together the first two are even.
        FairLines x = Checks.withBook("row 0 4 4 8;row 0 0 4 8;rise 3;");
        C.answered("two", x, x.planks(10), 2);
        C.answered("8 and 8, then 5 and 5", x, x.plank(0), 1);
        C.answered("no WASTE", x, x.plank(-1), 0);
        C.answered("one", x, x.planks(13), 1);
        C.answered("each alone", x, x.planks(7), 3);
        C.answered("2 and 2 and 0", x, x.plank(-1), 4);
        x.move(9, 3);
        C.answered("as it was then", x, x.plank(-1), 4);
        // WIDTHS 12 5 9 9 3, 9 3 3 8 12, 3 8 10 5 12: {0} {1 2 3} {4} and {0 1} {2} {3 4} waste 30.
        FairLines tie = Checks.withBook("row 0 12 17 26 35 35;row 0 9 9 9 17 29;"
                + "row 0 0 8 18 23 35;rise 3;");
        C.answered("three", tie, tie.planks(24), 3);
        C.answered("WASTE", tie, tie.plank(-1), 30);
        int[] due = {0, 3, 4};
        for (int k = 0; k < due.length; k++) {
            C.answered("the first by the lowest PLANK", tie, tie.plank(k), due[k]);
        }
    }

    private static void planksRefused() {
        FairLines x = Checks.withBook("row 7 7 7 7;");
        C.refused("tree 0", x, x.planks(0), 1);
        C.refused("tree 10000", x, x.planks(10000), 1);
        C.answered("tree 9999", x, x.planks(9999), 1);
        FairLines thin = Checks.withBook("row 7 7 7;rise 1;");
        C.answered("tree 1", thin, thin.planks(1), 2);
        FairLines none = new FairLines();
        C.refused("no STRIP", none, none.planks(9999), 6);
        C.refused("no STRIP, tree 0", none, none.planks(0), 1);
        FairLines one = Checks.withBook("row 0 0 0;row 0 0 40;rise 9;");
        C.refused("wider at one STATION", one, one.planks(40), 6);
        C.answered("wide enough", one, one.planks(41), 2);
    }

    private static void volumes() {
        FairLines x = Checks.withBook("row 1 2 3;row 0 5 0;row 1 1 1;space 3;rise 5;");
        // AREAS up to 1: 3, 5, 2; up to 2: 8, 10, 4.
        C.fraction("15 times 15 by 2", x, x.volume(1), 225, 2);
        C.fraction("32 times 15 by 2", x, x.volume(2), 240, 1);
        C.refused("WATER 0", x, x.volume(0), 1);
        C.refused("WATER 3", x, x.volume(3), 1);
        C.refused("WATER -1", x, x.volume(-1), 1);
        C.due("top stays", x.top(), 240);
        FairLines none = new FairLines();
        C.refused("none at all", none, none.volume(1), 1);
        FairLines one = Checks.withBook("row 1 2 3;");
        C.fraction("one STATION", one, one.volume(2), 0, 1);
        FairLines full = Checks.withBook("row 999 999 999 999 999 999;".repeat(8)
                + "space 999;rise 999;");
        C.fraction("full", full, full.volume(5), 14L * 9990 * 999 * 999 / 2, 1);
    }

    private static void centres() {
        FairLines x = Checks.withBook("row 1 2 3;row 0 5 0;row 1 1 1;space 3;rise 5;");
        C.fraction("5 and 5 and 4, times 3, by 15", x, x.centre(1), 14, 5);
        C.fraction("10 and 10 and 8, times 3, by 32", x, x.centre(2), 21, 8);
        C.refused("WATER 0", x, x.centre(0), 1);
        C.refused("WATER 3", x, x.centre(3), 1);
        FairLines flat = Checks.withBook("row 0 0 3;row 0 0 3;");
        C.refused("nothing there", flat, flat.centre(1), 6);
        C.fraction("something", flat, flat.centre(2), 5, 1);
        FairLines first = Checks.withBook("row 1 1 1;row 0 0 0;");
        C.fraction("all at the first", first, first.centre(1), 0, 1);
        FairLines one = Checks.withBook("row 1 2 3;");
        C.refused("one STATION", one, one.centre(1), 6);
    }

    private static void carried() {
        FairLines x = Checks.withBook("row 1 2 3;row 0 5 0;row 1 1 1;space 3;rise 5;keep 1 1;");
        C.fraction("an end, at the keel", x, x.carried(2, 0, 2), 15, 2);
        C.fraction("the middle, between STRIPS, KEPT", x, x.carried(2, 9, 4), -30, 1);
        C.fraction("the middle, on top", x, x.carried(1, 9, 4), -15, 1);
        C.fraction("above the WATER", x, x.carried(1, 10, 999), 0, 1);
        C.fraction("to 0", x, x.carried(1, 0, 0), -15, 2);
        C.fraction("to 999", x, x.carried(1, 8, 999), 14985, 1);
        C.fraction("as it is", x, x.carried(1, 9, 5), 0, 1);
        C.due("nothing moves", x.given(0), 0);
        C.refused("WATER 0", x, x.carried(0, 9, 4), 1);
        C.refused("WATER 3", x, x.carried(3, 9, 4), 1);
        C.refused("no POINT", x, x.carried(1, 11, 4), 1);
        C.refused("-1", x, x.carried(1, 9, -1), 1);
        C.refused("1000", x, x.carried(1, 9, 1000), 1);
        C.due("top stays", x.top(), 0);
        C.due("bottom stays", x.bottom(), 1);
    }
}
