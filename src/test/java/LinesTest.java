/** Promises 17 to 24: LINES and LATHS. */
public final class LinesTest {

    private static final Checks C = new Checks("LinesTest");

    public static void main(String[] args) {
        linesAndPlaces();
        slants();
        bends();
        unfairByTheEye();
        where();
        strains();
        laths();
        C.end();
    }

    /** BREADTHS that are cubes: BENDS differ by 6 along STATIONS and WATERS, by 48 along slants. */
    private static FairLines cubes(int eye) {
        StringBuilder text = new StringBuilder();
        for (int s = 0; s < 5; s++) {
            text.append("row");
            for (int w = 0; w < 5; w++) {
                text.append(' ').append((s + w) * (s + w) * (s + w));
            }
            text.append(';');
        }
        return Checks.withBook(text + "eye " + eye + ";");
    }

    private static void linesAndPlaces() {
        FairLines x = Checks.withBook("row 0 1 2 3;row 0 1 2 3;row 0 1 2 3;");
        int[] many = {3, 4, 6};
        for (int view = 0; view < 3; view++) {
            C.answered("LINES of VIEW " + view, x, x.lines(view, -1), many[view]);
            C.refused("LINE beyond", x, x.lines(view, many[view]), 1);
            C.refused("LINE below NONE", x, x.lines(view, -2), 1);
            C.refused("lies beyond", x, x.lies(view, many[view], 0), 1);
        }
        C.refused("VIEW -1", x, x.lines(-1, -1), 1);
        C.refused("VIEW 3", x, x.lines(3, -1), 1);
        C.answered("PLACES of a STATION", x, x.lines(0, 2), 4);
        C.answered("PLACES of a WATER", x, x.lines(1, 3), 3);
        C.answered("a STATION's last POINT", x, x.lies(0, 2, 3), 19);
        C.answered("a WATER's last POINT", x, x.lies(1, 3, 2), 19);
        C.refused("PLACE beyond", x, x.lies(0, 2, 4), 1);
        C.refused("PLACE beyond", x, x.lies(1, 3, 3), 1);
        C.refused("PLACE below", x, x.lies(1, 3, -1), 1);
        C.refused("LINE NONE", x, x.lies(1, -1, 0), 1);
        C.refused("VIEW 3", x, x.lies(3, 0, 0), 1);
        FairLines none = new FairLines();
        for (int view = 0; view < 3; view++) {
            C.answered("no LINES", none, none.lines(view, -1), 0);
            C.refused("no LINE", none, none.lines(view, 0), 1);
        }
        FairLines one = Checks.withBook("row 1 2 3;");
        C.answered("slants of one STATION", one, one.lines(2, -1), 3);
        C.answered("the last", one, one.lies(2, 2, 0), 2);
    }

    private static void slants() {
        FairLines x = Checks.withBook("row 0 1 2 3;row 0 1 2 3;row 0 1 2 3;");
        int[][] due = {{16}, {8, 17}, {0, 9, 18}, {1, 10, 19}, {2, 11}, {3}};
        for (int line = 0; line < due.length; line++) {
            C.answered("slant " + line, x, x.lines(2, line), due[line].length);
            for (int place = 0; place < due[line].length; place++) {
                C.answered("slant " + line, x, x.lies(2, line, place), due[line][place]);
            }
            C.refused("beyond slant " + line, x, x.lies(2, line, due[line].length), 1);
        }
    }

    private static void bends() {
        FairLines x = Checks.withBook("row 5 3 2 3;row 1 1 2 9;row 9 8 8 0;");
        C.answered("along a STATION", x, x.bend(0, 0, 1), 1);
        C.answered("along a STATION", x, x.bend(0, 0, 2), 2);
        C.answered("-1 is no NONE", x, x.bend(0, 2, 1), 1);
        C.answered("along a WATER", x, x.bend(1, 3, 1), -15);
        C.answered("along a slant", x, x.bend(2, 2, 1), 11);
        C.refused("the first PLACE", x, x.bend(0, 0, 0), 6);
        C.refused("the last PLACE", x, x.bend(0, 0, 3), 6);
        C.refused("alone on its slant", x, x.bend(2, 0, 0), 6);
        C.refused("no PLACE", x, x.bend(0, 0, 4), 1);
        C.refused("no PLACE", x, x.bend(0, 0, -1), 1);
        C.refused("no LINE", x, x.bend(0, 3, 1), 1);
        C.refused("no VIEW", x, x.bend(3, 0, 1), 1);
        x.move(17, 9);
        C.answered("-1 is no NONE", x, x.bend(0, 2, 1), -1);
    }

    private static void unfairByTheEye() {
        int[][] due = {{5, 24}, {6, 4}, {47, 4}, {48, 0}, {0, 24}, {999, 0}};
        for (int[] eyeAndMany : due) {
            FairLines x = cubes(eyeAndMany[0]);
            C.answered("eye " + eyeAndMany[0], x, x.unfairAll(), eyeAndMany[1]);
        }
        FairLines x = cubes(5);
        C.answered("of a STATION", x, x.unfair(0, 4), 2);
        C.answered("of a WATER", x, x.unfair(1, 0), 2);
        int[] slants = {0, 0, 0, 1, 2, 1, 0, 0, 0};
        for (int line = 0; line < slants.length; line++) {
            C.answered("of slant " + line, x, x.unfair(2, line), slants[line]);
        }
        C.refused("no LINE", x, x.unfair(2, 9), 1);
        C.refused("LINE NONE", x, x.unfair(0, -1), 1);
        C.refused("no VIEW", x, x.unfair(3, 0), 1);
        x.keep(18, true);
        C.answered("KEPT ones are UNFAIR too", x, x.unfairAll(), 24);
    }

    private static void where() {
        FairLines x = cubes(5);
        int[][] due = {{0, 0, 0, 2}, {1, 0, 0, 3}, {9, 0, 4, 3}, {10, 1, 0, 2}, {19, 1, 4, 3},
            {20, 2, 3, 2}, {21, 2, 4, 2}, {22, 2, 4, 3}, {23, 2, 5, 2}};
        for (int[] one : due) {
            for (int what = 0; what < 3; what++) {
                C.answered("where " + one[0], x, x.where(one[0], what), one[what + 1]);
            }
        }
        C.refused("beyond", x, x.where(24, 0), 6);
        C.refused("below", x, x.where(-1, 0), 1);
        C.refused("what 3", x, x.where(0, 3), 1);
        C.refused("what -1, beyond", x, x.where(24, -1), 1);
        x.move(0, 1);
        C.answered("as it is now", x, x.where(0, 2), 3);
    }

    private static void strains() {
        FairLines x = cubes(5);
        C.answered("0 1 8 27 64", x, x.strain(0, 0), 36 + 144 + 324);
        C.answered("0 8 64 216 512", x, x.strain(2, 4), 64L * (36 + 144 + 324));
        C.answered("one PLACE", x, x.strain(2, 0), 0);
        C.answered("two PLACES", x, x.strain(2, 1), 0);
        C.refused("no LINE", x, x.strain(1, 5), 1);
        C.refused("no VIEW", x, x.strain(-1, 0), 1);
        FairLines steep = Checks.withBook("row 999 0 999 0 999 0;");
        C.answered("steep", steep, steep.strain(0, 0), 4L * 1998 * 1998);
    }

    private static void laths() {
        FairLines x = Checks.withBook("row 0 1 8 27;row 7 7 7 7;row 3 1 4 1;");
        C.fraction("by 0, 1, 3 at 2", x, x.lath(0, 0, 11, 2), 58, 5);
        C.fraction("at a DUCK", x, x.lath(0, 0, 11, 3), 27, 1);
        C.fraction("by the first two", x, x.lath(0, 0, 3, 3), 3, 1);
        C.fraction("by the last two", x, x.lath(0, 0, 12, 0), -30, 1);
        C.fraction("by the ends", x, x.lath(0, 0, 9, 1), 9, 1);
        C.fraction("by all", x, x.lath(0, 0, 15, 1), 1, 1);
        C.fraction("of a WATER", x, x.lath(1, 0, 5, 1), 3, 2);
        C.fraction("of a slant", x, x.lath(2, 1, 3, 0), 7, 1);
        C.refused("one DUCK", x, x.lath(0, 0, 4, 1), 6);
        C.refused("no DUCK", x, x.lath(0, 0, 0, 1), 6);
        C.refused("alone on its slant", x, x.lath(2, 0, 1, 0), 6);
        C.due("top stays", x.top(), 7);
        C.refused("a DUCK beyond", x, x.lath(0, 0, 16, 1), 1);
        C.refused("a DUCK beyond among others", x, x.lath(0, 0, 19, 1), 1);
        C.refused("a set below 0", x, x.lath(0, 0, -1, 1), 1);
        C.refused("no PLACE", x, x.lath(0, 0, 3, 4), 1);
        C.refused("no PLACE", x, x.lath(0, 0, 3, -1), 1);
        C.refused("no LINE", x, x.lath(0, 3, 3, 0), 1);
        C.refused("no VIEW", x, x.lath(3, 0, 3, 0), 1);
        C.due("nothing moved", x.given(0), 0);
        FairLines eight = Checks.withBook("row 0 0 0;".repeat(4) + "row 128 0 0;"
                + "row 0 0 0;".repeat(3));
        // BENDS rise evenly from either end to -30.72 at the DUCK between, so it lies at 64 + 30.72.
        C.fraction("eight PLACES, by 0, 4, 7", eight, eight.lath(1, 0, 145, 2), 2368, 25);
    }
}
