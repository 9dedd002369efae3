/** Part 3: where a sentence on what is built and floats just holds, and where it just does not. */
public final class YardEdgesTest {

    private static final Checks C = new Checks("YardEdgesTest");

    public static void main(String[] args) {
        roots();
        widestPlanks();
        rates();
        growthTowardsNothing();
        boatsAtTheEnds();
        slack();
        areas();
        fractions();
        ribs();
        C.end();
    }

    private static void roots() {
        C.sentence("ROOTS are rounded down");
        int[][] due = {{3, 4, 5}, {2, 2, 2}, {1, 0, 1}, {1, 1, 1}, {1, 999, 999}, {999, 0, 999},
            {999, 999, 1412}, {680, 714, 986}, {680, 713, 985}, {5, 12, 13}, {4, 12, 12}};
        for (int[] one : due) {
            FairLines x = Checks.withBook("row 0 " + one[1] + " 0;row " + one[1] + " 0 0;rise "
                    + one[0] + ";space " + one[0] + ";");
            C.answered("width up", x, x.width(0, 0), one[2]);
            C.answered("width down", x, x.width(0, 1), one[2]);
            C.answered("length up", x, x.length(0), one[2]);
            C.answered("length down", x, x.length(1), one[2]);
        }
        for (int rise = 1; rise <= 999; rise += 499) {
            FairLines x = null;
            for (int across = 0; across <= 999; across++) {
                if (across % 200 == 0) {
                    x = Checks.withBook("row 0 0 0;rise " + rise + ";");
                }
                x.move(1, across);
                int root = x.width(0, 0);
                int square = rise * rise + across * across;
                boolean is = root * root <= square && (root + 1) * (root + 1) > square;
                C.due("root of " + square + " is not " + root, is, true);
            }
        }
        C.sentence("of all neighbouring STATIONS the roots together");
        FairLines one = Checks.withBook("row 9 5 7;");
        C.answered("one STATION", one, one.length(1), 0);
        C.answered("one STATION", one, one.banana(1), 0);
        FairLines eight = Checks.withBook(Checks.flat(8, 3, 5) + "space 999;");
        C.answered("eight", eight, eight.length(2), 7 * 999);
    }

    private static void widestPlanks() {
        C.sentence("so that none is wider at any STATION than a TREE");
        FairLines five = Checks.withBook("row 7 7 7 7 7 7;row 7 7 7 7 7 7;");
        int[][] due = {{9, 0}, {10, 5}, {19, 5}, {20, 3}, {29, 3}, {30, 2}, {49, 2}, {50, 1},
            {9999, 1}};
        for (int[] one : due) {
            if (one[1] == 0) {
                C.refused("tree " + one[0], five, five.planks(one[0]), 6);
            } else {
                C.answered("tree " + one[0], five, five.planks(one[0]), one[1]);
                C.answered("the last ends on top", five, five.plank(one[1] - 1), 4);
                C.refused("no other", five, five.plank(one[1]), 6);
            }
        }
        for (int station = 0; station < 3; station++) {
            FairLines x = Checks.withBook("row 5 5 5;row 5 5 5;row 5 5 5;");
            x.move(8 * station + 2, 5 + 24);
            C.refused("26 at one STATION", x, x.planks(25), 6);
            C.answered("26", x, x.planks(26), 2);
            C.answered("10 and 26 are not 35", x, x.planks(35), 2);
            C.answered("36", x, x.planks(36), 1);
            C.answered("WASTE", x, x.plank(-1), 32);
        }
        FairLines wide = Checks.withBook("row 0 999 0 999 0 999;rise 999;");
        C.answered("five times 1412", wide, wide.planks(7060), 1);
        C.answered("too wide for one", wide, wide.planks(7059), 2);
        C.answered("the lesser highest STRIP ahead", wide, wide.plank(0), 0);
        C.answered("one STATION wastes nothing", wide, wide.plank(-1), 0);
    }

    private static FairLines square(int real, int now, int side) {
        FairLines x = new FairLines();
        Checks.fill(x, 0, 2, real, now, side);
        return x;
    }

    private static void rates() {
        C.sentence("A RATE (-50 to 50) FITS, if each of those differs by at most 1");
        int[][] due = {{948, 0, 0, 0}, {949, 1, -50, -50}, {950, 2, -50, -49}, {951, 3, -50, -48},
            {952, 3, -49, -47}, {1000, 3, -1, 1}, {1048, 3, 47, 49}, {1049, 3, 48, 50},
            {1050, 2, 49, 50}, {1051, 1, 50, 50}, {1052, 0, 0, 0}};
        for (int[] one : due) {
            for (int side = 0; side < 2; side++) {
                FairLines x = square(1000, one[0], side);
                C.answered("how many", x, x.wet(0, 1, 3 * side), one[1]);
                if (one[1] == 0) {
                    C.refused("no least", x, x.wet(0, 1, 3 * side + 1), 6);
                    C.refused("no most", x, x.wet(0, 1, 3 * side + 2), 6);
                } else {
                    C.answered("the least", x, x.wet(0, 1, 3 * side + 1), one[2]);
                    C.answered("the most", x, x.wet(0, 1, 3 * side + 2), one[3]);
                }
            }
        }
        C.sentence("so many SQUARES");
        FairLines few = new FairLines();
        Checks.fill(few, 0, 2, 1000, 1020, 0, 1000, 20000, 7, -1);
        C.answered("what is behind them is none of them", few, few.wet(0, 1, 0), 3);
        C.refused("it can't be", few, few.wet(0, 2, 0), 5);
        C.sentence("each of those");
        for (int odd = 0; odd < 20; odd++) {
            FairLines x = new FairLines();
            x.tray(0, 1, 60);
            for (int i = 0; i < 20; i++) {
                x.write(0, 3 * i, 1000);
                x.write(0, 3 * i + 1, i == odd ? 1022 : 1020);
            }
            C.answered("21 alone", x, x.wet(0, 20, 0), 1);
            C.answered("21 alone", x, x.wet(0, 20, 1), 21);
            C.answered("those ahead of it", x, x.wet(0, Math.max(1, odd), 0), 3);
            x.write(0, 3 * odd + 1, 1023);
            C.answered("none", x, x.wet(0, 20, 0), 0);
            x.write(0, 3 * odd + 2, 1);
            C.answered("the others along", x, x.wet(0, 20, 2), 21);
            C.answered("the odd one across", x, x.wet(0, 20, 4), 22);
        }
    }

    private static void growthTowardsNothing() {
        C.sentence("the true length and that times RATE by 1,000 (towards 0)");
        // 9,999 times 50 by 1,000 is 499, and times -50 it is -499.
        int[][] due = {{10496, 0}, {10497, 1}, {10499, 1}, {10500, 0}, {9498, 0}, {9499, 1},
            {9501, 1}, {9502, 0}};
        for (int[] one : due) {
            FairLines x = square(9999, one[0], 0);
            C.answered("9999 is " + one[0], x, x.wet(0, 1, 0), one[1]);
        }
        // 20 times 49 by 1,000 is 0, times 50 it is 1: and the same below 0.
        FairLines one = square(20, 22, 0);
        C.answered("50 alone", one, one.wet(0, 1, 0), 1);
        C.answered("50 alone", one, one.wet(0, 1, 1), 50);
        FairLines less = square(20, 18, 1);
        C.answered("-50 alone", less, less.wet(0, 1, 3), 1);
        C.answered("-50 alone", less, less.wet(0, 1, 5), -50);
        FairLines none = square(19, 21, 0);
        C.answered("none", none, none.wet(0, 1, 0), 0);
        FairLines nothing = square(0, 1, 0);
        C.answered("0 never grows, and 1 is near", nothing, nothing.wet(0, 1, 0), 101);
        FairLines two = square(0, 2, 0);
        C.answered("2 is not", two, two.wet(0, 1, 0), 0);
    }

    private static void boatsAtTheEnds() {
        C.sentence("the BREADTH there is the floor's and .., less HAND; 0 to 999");
        // By seed 0 and HAND 20 BOAT 0 has 5 less 20 at the first POINT and 32 less 20 at the next.
        int[][] low = {{14, 0}, {15, 0}, {16, 1}};
        int[][] high = {{986, 998}, {987, 999}, {988, 999}};
        for (int i = 0; i < 3; i++) {
            FairLines x = Checks.withBook("row " + low[i][0] + " " + high[i][0] + " 0;");
            C.answered("down by 15", x, x.boat(0, 20, 0, 0), low[i][1]);
            C.answered("up by 12", x, x.boat(0, 20, 0, 1), high[i][1]);
        }
        C.sentence("by each POINT, as numbered");
        FairLines wide = Checks.withBook("row 100 100 100 100;row 100 100 100 100;");
        FairLines narrow = Checks.withBook("row 100 100 100;row 100 100 100;");
        C.answered("the fifth", narrow, narrow.boat(9, 7, 3, 9), wide.boat(9, 7, 3, 8));
        C.answered("the fourth", narrow, narrow.boat(9, 7, 3, 8), wide.boat(9, 7, 3, 3));
        C.sentence("APART: the greatest difference of two of them; the first POINT with it");
        FairLines x = Checks.withBook("row 500 500 500;row 500 500 500;");
        C.answered("all that HAND can do", x, x.apart(0, 1, 40, 0), 2);
        C.answered("at the first", x, x.apart(0, 1, 40, 1), 0);
        x.move(0, 0);
        x.move(1, 999);
        C.answered("0 and 999 hold back", x, x.apart(0, 1, 40, 0), 2);
        C.answered("so it is the third", x, x.apart(0, 1, 40, 1), 2);
        for (int n = 2; n <= 40; n++) {
            apartOf(n);
        }
    }

    private static void apartOf(int n) {
        FairLines x = Checks.withBook("row 500 500 500;row 500 500 500;");
        int[] points = {0, 1, 2, 8, 9, 10};
        int most = -1;
        int first = -1;
        for (int point : points) {
            int low = 999;
            int high = 0;
            for (int k = 0; k < n; k++) {
                low = Math.min(low, x.boat(31, 20, k, point));
                high = Math.max(high, x.boat(31, 20, k, point));
            }
            if (high - low > most) {
                most = high - low;
                first = point;
            }
        }
        C.answered("of " + n, x, x.apart(31, 20, n, 0), most);
        C.answered("of " + n, x, x.apart(31, 20, n, 1), first);
    }

    private static void slack() {
        C.sentence("BUILT: those that differ by at most a slack from what was measured");
        FairLines x = Checks.withBook("row 500 500 500;row 500 500 500;");
        for (int slack : new int[] {0, 1, 50, 99}) {
            for (int sign = -1; sign <= 1; sign += 2) {
                Checks.fill(x, 0, 1, 9, 500 + sign * slack);
                C.answered("by " + slack, x, x.built(0, 0, 1, 0, 1, slack, 0), 1);
                Checks.fill(x, 0, 1, 9, 500 + sign * (slack + 1));
                C.answered("by one more", x, x.built(0, 0, 1, 0, 1, slack, 0), 0);
                C.refused("no first", x, x.built(0, 0, 1, 0, 1, slack, 1), 6);
            }
        }
        for (int odd = 0; odd < 20; odd++) {
            FairLines y = Checks.withBook("row 500 500 500;");
            y.tray(0, 1, 40);
            for (int couple = 0; couple < 20; couple++) {
                y.write(0, 2 * couple, couple % 3);
                y.write(0, 2 * couple + 1, couple == odd ? 507 : 500);
            }
            C.answered("the odd one is too far", y, y.built(0, 0, 40, 0, 20, 6, 0), 0);
            C.answered("it is near", y, y.built(0, 0, 40, 0, 20, 7, 0), 40);
            C.answered("the first BOAT", y, y.built(0, 0, 40, 0, 20, 7, 1), 0);
            C.answered("those ahead of it", y, y.built(0, 0, 40, 0, Math.max(1, odd), 6, 0),
                    odd == 0 ? 0 : 40);
        }
    }

    private static void areas() {
        C.sentence("AREA up to a WATER w: of the STRIPS below the sum of both BREADTHS");
        FairLines x = Checks.withBook("row 1 10 100 200;row 0 0 0 0;space 1;rise 2;");
        C.fraction("one STRIP", x, x.volume(1), 11, 1);
        C.fraction("two STRIPS", x, x.volume(2), 121, 1);
        C.fraction("three STRIPS", x, x.volume(3), 421, 1);
        C.sentence("of all neighbouring STATIONS");
        FairLines one = Checks.withBook("row 9 9 9;");
        C.fraction("one STATION", one, one.volume(1), 0, 1);
        C.fraction("one STATION", one, one.carried(1, 0, 999), 0, 1);
        C.refused("one STATION", one, one.centre(1), 6);
        C.sentence("CENTRE (none, if that is 0)");
        FairLines flat = Checks.withBook("row 0 0 1;row 0 0 0;row 0 0 0;");
        C.refused("0", flat, flat.centre(1), 6);
        C.fraction("all at STATION 0", flat, flat.centre(2), 0, 1);
        flat.move(8, 1);
        C.fraction("all at STATION 1", flat, flat.centre(1), 10, 1);
        C.sentence("CARRIED: by how much VOLUME changes");
        C.fraction("as it is", flat, flat.carried(1, 8, 1), 0, 1);
        C.fraction("to 0", flat, flat.carried(1, 8, 0), -100, 1);
        C.fraction("to 999", flat, flat.carried(1, 8, 999), 99800, 1);
        C.fraction("above the WATER", flat, flat.carried(1, 10, 999), 0, 1);
        C.fraction("at the WATER", flat, flat.carried(1, 9, 999), 99900, 1);
        C.fraction("between two STRIPS", flat, flat.carried(2, 9, 999), 199800, 1);
        C.due("nothing is moved", flat.given(2), 1);
    }

    private static void fractions() {
        C.sentence("without a common divisor, the bottom above 0; 0 is 0 by 1");
        FairLines x = Checks.withBook("row 0 0 0;row 5 5 5;row 6 0 8;row 0 0 0;space 6;");
        C.fraction("6 by 12", x, x.bevel(8), 1, 2);
        C.fraction("0 by 12", x, x.bevel(9), 0, 1);
        C.fraction("8 by 12", x, x.bevel(10), 2, 3);
        C.fraction("-5 by 12", x, x.bevel(16), -5, 12);
        x.move(16, 24);
        C.fraction("24 by 12", x, x.bevel(8), 2, 1);
        x.move(8, 24);
        C.fraction("-24 by 12", x, x.bevel(16), -2, 1);
        C.fraction("0 by 1, of a LATH", x, x.lath(0, 0, 3, 2), 0, 1);
        C.fraction("0 by 1, of VOLUME", x, x.carried(1, 0, 0), 0, 1);
        C.sentence("The top of the FRACTION told latest");
        C.fraction("-5 by 12", x, x.bevel(17), -5, 12);
        C.refused("refused", x, x.bevel(0), 6);
        C.refused("refused", x, x.lath(0, 0, 1, 0), 6);
        C.refused("refused", x, x.volume(0), 1);
        x.book(0);
        C.due("top", x.top(), -5);
        C.due("bottom", x.bottom(), 12);
        FairLines full = Checks.withBook(Checks.flat(8, 6, 999) + "space 999;rise 999;");
        C.fraction("the greatest", full, full.volume(5), 69790209930L, 1);
        C.fraction("as much less", full, full.carried(5, 9, 0), -1994005998L, 1);
    }

    private static void ribs() {
        C.sentence("each STATION gets a tree of its own, out of so many (1 to 10)");
        StringBuilder text = new StringBuilder();
        for (int s = 0; s < 8; s++) {
            text.append("row 0 ").append(10 * s).append(" 0;");
        }
        FairLines x = Checks.withBook(text.toString());
        long[] trees = {140, 120, 100, 80, 60, 40, 20, 0, 9999, 9999};
        Checks.fill(x, 0, 2, trees);
        C.refused("seven trees", x, x.ribs(0, 7), 6);
        for (int many = 8; many <= 10; many++) {
            C.answered(many + " trees", x, x.ribs(0, many), 0);
            for (int s = 0; s < 8; s++) {
                C.answered("rib " + s, x, x.rib(s), 7 - s);
            }
            C.refused("no STATION then", x, x.rib(8), 1);
        }
        Checks.fill(x, 0, 2, 9999, 9999, 9999, 9999, 9999, 9999, 9999, 9999, 9999, 9999);
        C.answered("all far too crooked", x, x.ribs(0, 10), 8 * 9999 - 560);
        for (int s = 0; s < 8; s++) {
            C.answered("of several the first", x, x.rib(s), s);
        }
        Checks.fill(x, 0, 2, 0, 0, 0, 0, 0, 0, 0, 0);
        C.answered("all straight", x, x.ribs(0, 8), 560);
        Checks.book(x, "row 0 5 0;row 0 5 0;row 0 5 0;");
        Checks.fill(x, 0, 2, 12, 10, 10, 10);
        C.answered("as many trees as STATIONS", x, x.ribs(0, 3), 2);
        for (int s = 0; s < 3; s++) {
            C.answered("rib " + s, x, x.rib(s), s);
        }
        C.answered("a tree of its own", x, x.ribs(0, 4), 0);
        for (int s = 0; s < 3; s++) {
            C.answered("rib " + s, x, x.rib(s), 1 + s);
        }
        FairLines one = Checks.withBook("row 0 5 0;");
        Checks.fill(one, 0, 2, 11, 9, 10, 10);
        C.answered("one tree", one, one.ribs(0, 1), 1);
        C.answered("of several the first", one, one.ribs(0, 2), 1);
        C.answered("of several the first", one, one.rib(0), 0);
        C.answered("10", one, one.ribs(0, 3), 0);
        C.answered("10", one, one.rib(0), 2);
        C.answered("10 twice", one, one.ribs(0, 4), 0);
        C.answered("the first of them", one, one.rib(0), 2);
        C.sentence("CROOK: the sizes of all BENDS of its LINE together");
        FairLines steep = Checks.withBook("row 999 0 999 0 999 0;row 0 5 10 15 20 25;");
        C.answered("four BENDS of 1998", steep, steep.crook(0), 4 * 1998);
        C.answered("straight", steep, steep.crook(1), 0);
    }
}
