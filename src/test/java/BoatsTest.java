/** Promises 44 to 47: WET, BOATS. */
public final class BoatsTest {

    private static final Checks C = new Checks("BoatsTest");

    public static void main(String[] args) {
        wet();
        wetTowardsNothing();
        wetRefused();
        boats();
        boatsRefused();
        apart();
        built();
        builtRefused();
        C.end();
    }

    private static void wet() {
        FairLines x = new FairLines();
        Checks.fill(x, 0, 2, 1000, 1010, 0, 1000, 950, 1, 2000, 2023, 0);
        C.answered("9, 10, 11", x, x.wet(0, 1, 0), 3);
        C.answered("the least", x, x.wet(0, 1, 1), 9);
        C.answered("the most", x, x.wet(0, 1, 2), 11);
        C.answered("none across: all FIT", x, x.wet(0, 1, 3), 101);
        C.answered("the least", x, x.wet(0, 1, 4), -50);
        C.answered("the most", x, x.wet(0, 1, 5), 50);
        C.answered("-50, -49", x, x.wet(0, 2, 3), 2);
        C.answered("the least", x, x.wet(0, 2, 4), -50);
        C.answered("the most", x, x.wet(0, 2, 5), -49);
        C.answered("along is not across", x, x.wet(0, 2, 0), 3);
        C.answered("11 alone FITS both", x, x.wet(0, 3, 0), 1);
        C.answered("the least", x, x.wet(0, 3, 1), 11);
        C.answered("the most", x, x.wet(0, 3, 2), 11);
        x.write(0, 7, 2040);
        C.answered("none", x, x.wet(0, 3, 0), 0);
        C.refused("no least", x, x.wet(0, 3, 1), 6);
        C.refused("no most", x, x.wet(0, 3, 2), 6);
        C.answered("across still", x, x.wet(0, 3, 5), -49);
        Checks.fill(x, 1, 2, 1000, 999, 1);
        C.answered("-1 is no NONE", x, x.wet(1, 1, 4), -2);
        x.write(1, 1, 1000);
        C.answered("-1 is no NONE", x, x.wet(1, 1, 4), -1);
    }

    private static void wetTowardsNothing() {
        FairLines x = new FairLines();
        // 150 times -13 by 1,000 is -1, towards 0; times -14 is -2.
        Checks.fill(x, 0, 2, 150, 150, 0);
        C.answered("least", x, x.wet(0, 1, 1), -13);
        C.answered("most", x, x.wet(0, 1, 2), 13);
        x.write(0, 1, 149);
        C.answered("down to -2", x, x.wet(0, 1, 1), -19);
        C.answered("up to 0", x, x.wet(0, 1, 2), 6);
        Checks.fill(x, 1, 2, 0, 1, 0);
        C.answered("0 and 1", x, x.wet(1, 1, 0), 101);
        x.write(1, 1, 2);
        C.answered("0 and 2", x, x.wet(1, 1, 0), 0);
    }

    private static void wetRefused() {
        FairLines x = new FairLines();
        C.refused("no TRAY", x, x.wet(4, 1, 0), 1);
        C.refused("none", x, x.wet(0, 0, 0), 1);
        C.refused("21", x, x.wet(0, 21, 0), 1);
        C.refused("what -1", x, x.wet(0, 1, -1), 1);
        C.refused("what 6", x, x.wet(0, 1, 6), 1);
        C.refused("MISSING", x, x.wet(0, 1, 0), 2);
        Checks.fill(x, 0, 3, 9999, 19999, 1, 0, 0);
        C.refused("too few", x, x.wet(0, 2, 0), 3);
        C.answered("the greatest", x, x.wet(0, 1, 0), 101);
        long[][] bad = {{0, -1}, {0, 10000}, {1, -1}, {1, 20000}, {2, -1}, {2, 2}};
        for (long[] one : bad) {
            Checks.fill(x, 0, 3, 9999, 19999, 1);
            x.write(0, (int) one[0], one[1]);
            C.refused("can't be", x, x.wet(0, 1, 0), 5);
            C.refused("5 ahead of 6", x, x.wet(0, 1, 4), 5);
        }
        x.tray(1, 0, 60);
        C.answered("twenty", x, x.wet(1, 20, 0), 101);
    }

    /**
     * From 0: 7919, 8458, 61377, and by 8: 989, 1057, 7672.
     */
    private static void boats() {
        FairLines x = Checks.withBook("row 10 20 30;row 0 999 50;");
        C.answered("989 by 3: 2", x, x.boat(0, 1, 0, 0), 11);
        C.answered("1057 by 3: 1", x, x.boat(0, 1, 0, 1), 20);
        C.answered("7672 by 3: 1", x, x.boat(0, 1, 0, 2), 30);
        C.answered("989 by 41: 5", x, x.boat(0, 20, 0, 0), 0);
        C.answered("1057 by 41: 32", x, x.boat(0, 20, 0, 1), 32);
        C.answered("no HAND", x, x.boat(0, 0, 0, 1), 20);
        C.answered("seed 101 is BOAT 1", x, x.boat(101, 3, 0, 2), x.boat(0, 3, 1, 2));
        C.answered("not of a POINT that is none", x, x.boat(9999, 20, 39, 8), slow(9999, 20, 39, 3, 0));
        C.answered("999 at most", x, x.boat(0, 20, 39, 9), slow(0, 20, 39, 4, 999));
        x.move(0, 500);
        C.answered("by the floor", x, x.boat(0, 1, 0, 0), 501);
        boolean isHigh = false;
        boolean isLow = false;
        for (int k = 0; k < 40; k++) {
            isHigh |= slow(7, 20, k, 4, 999) == 999;
            isLow |= slow(7, 20, k, 3, 0) == 0;
            C.answered("BOAT at 999", x, x.boat(7, 20, k, 9), slow(7, 20, k, 4, 999));
            C.answered("BOAT at 0", x, x.boat(7, 20, k, 8), slow(7, 20, k, 3, 0));
        }
        C.due("both ends were met", isHigh && isLow, true);
    }

    private static int slow(int seed, int hand, int k, int ahead, int breadth) {
        long s = seed + 101L * k;
        for (int i = 0; i <= ahead; i++) {
            s = (s * 3989 + 7919) % 65536;
        }
        long v = breadth + s / 8 % (2 * hand + 1) - hand;
        return (int) Math.max(0, Math.min(999, v));
    }

    private static void boatsRefused() {
        FairLines x = Checks.withBook("row 10 20 30;");
        C.refused("seed -1", x, x.boat(-1, 0, 0, 0), 1);
        C.refused("seed 10000", x, x.boat(10000, 0, 0, 0), 1);
        C.refused("hand -1", x, x.boat(0, -1, 0, 0), 1);
        C.refused("hand 21", x, x.boat(0, 21, 0, 0), 1);
        C.refused("BOAT -1", x, x.boat(0, 0, -1, 0), 1);
        C.refused("BOAT 40", x, x.boat(0, 0, 40, 0), 1);
        C.refused("no POINT", x, x.boat(0, 0, 0, 3), 1);
        C.refused("no POINT", x, x.boat(0, 0, 0, -1), 1);
    }

    private static void apart() {
        FairLines x = Checks.withBook("row 10 20 30;row 100 200 300;");
        C.answered("no HAND", x, x.apart(5, 0, 40, 0), 0);
        C.answered("no HAND: the first POINT", x, x.apart(5, 0, 40, 1), 0);
        FairLines low = Checks.withBook("row 0 0 0;");
        C.answered("no HAND at 0", low, low.apart(5, 0, 40, 0), 0);
        C.answered("no HAND at 0", low, low.apart(5, 0, 40, 1), 0);
        // By HAND 20 BOAT 0 has 989, 1057 by 41: 5, 32; BOAT 1 has 2199, 7360 by 41: 26, 21.
        C.answered("5 less 20", x, x.boat(0, 20, 0, 0), 0);
        C.answered("26 less 20", x, x.boat(0, 20, 1, 0), 16);
        int most = -1;
        int first = -1;
        for (int i = 0; i < 6; i++) {
            int point = i < 3 ? i : 5 + i;
            int breadth = x.point(point, 0);
            int between = Math.abs(slow(0, 20, 0, i, breadth) - slow(0, 20, 1, i, breadth));
            if (between > most) {
                most = between;
                first = point;
            }
        }
        C.answered("two", x, x.apart(0, 20, 2, 0), most);
        C.answered("where", x, x.apart(0, 20, 2, 1), first);
        C.answered("all that HAND can do", x, x.apart(0, 1, 40, 0), 2);
        C.answered("at the first", x, x.apart(0, 1, 40, 1), 0);
        C.refused("seed", x, x.apart(-1, 0, 2, 0), 1);
        C.refused("hand", x, x.apart(0, 21, 2, 0), 1);
        C.refused("one", x, x.apart(0, 0, 1, 0), 1);
        C.refused("41", x, x.apart(0, 0, 41, 0), 1);
        C.refused("what 2", x, x.apart(0, 0, 2, 2), 1);
        C.refused("what -1", x, x.apart(0, 0, 2, -1), 1);
        FairLines none = new FairLines();
        C.refused("no POINTS", none, none.apart(0, 0, 2, 0), 6);
        C.refused("no POINTS, one", none, none.apart(0, 0, 1, 0), 1);
    }

    private static void built() {
        FairLines x = Checks.withBook("row 10 20 30;row 100 200 300;");
        for (int k = 0; k < 40; k += 13) {
            Checks.fill(x, 0, 1, 0, x.boat(77, 20, k, 0), 10, x.boat(77, 20, k, 10), 1,
                    x.boat(77, 20, k, 1), 8, x.boat(77, 20, k, 8));
            C.answered("one by its measures", x, x.built(77, 20, 40, 0, 4, 0, 0), 1);
            C.answered("which", x, x.built(77, 20, 40, 0, 4, 0, 1), k);
            if (k > 0) {
                C.answered("not among those ahead", x, x.built(77, 20, k, 0, 4, 0, 0), 0);
                C.refused("no first", x, x.built(77, 20, k, 0, 4, 0, 1), 6);
            }
        }
        Checks.fill(x, 1, 1, 10, 300);
        C.answered("within slack", x, x.built(77, 20, 40, 1, 1, 20, 0), 40);
        C.answered("the first", x, x.built(77, 20, 40, 1, 1, 20, 1), 0);
        int near = 0;
        for (int k = 0; k < 40; k++) {
            near += Math.abs(x.boat(77, 20, k, 10) - 300) <= 5 ? 1 : 0;
        }
        C.answered("some", x, x.built(77, 20, 40, 1, 1, 5, 0), near);
        Checks.fill(x, 2, 1, 10, 300, 10, 340);
        C.answered("both can't be", x, x.built(77, 0, 40, 2, 2, 39, 0), 0);
        C.answered("both can be", x, x.built(77, 0, 40, 2, 2, 40, 0), 40);
    }

    private static void builtRefused() {
        FairLines x = Checks.withBook("row 10 20 30;");
        Checks.fill(x, 0, 3, 0, 10, 1, 20, 3, 30);
        C.refused("seed", x, x.built(10000, 0, 1, 0, 1, 0, 0), 1);
        C.refused("hand", x, x.built(0, -1, 1, 0, 1, 0, 0), 1);
        C.refused("no BOAT", x, x.built(0, 0, 0, 0, 1, 0, 0), 1);
        C.refused("41", x, x.built(0, 0, 41, 0, 1, 0, 0), 1);
        C.refused("no TRAY", x, x.built(0, 0, 1, -1, 1, 0, 0), 1);
        C.refused("no couple", x, x.built(0, 0, 1, 0, 0, 0, 0), 1);
        C.refused("21 couples", x, x.built(0, 0, 1, 0, 21, 0, 0), 1);
        C.refused("slack -1", x, x.built(0, 0, 1, 0, 1, -1, 0), 1);
        C.refused("slack 100", x, x.built(0, 0, 1, 0, 1, 100, 0), 1);
        C.refused("what 2", x, x.built(0, 0, 1, 0, 1, 0, 2), 1);
        C.refused("MISSING", x, x.built(0, 0, 1, 1, 1, 0, 0), 2);
        C.refused("too few", x, x.built(0, 0, 1, 0, 4, 0, 0), 3);
        C.refused("no POINT", x, x.built(0, 0, 1, 0, 3, 0, 0), 5);
        C.answered("two are as measured", x, x.built(0, 0, 1, 0, 2, 0, 0), 1);
        x.write(0, 1, 1000);
        C.refused("1000", x, x.built(0, 0, 1, 0, 1, 0, 1), 5);
        x.write(0, 1, -1);
        C.refused("-1", x, x.built(0, 0, 1, 0, 1, 0, 1), 5);
        x.write(0, 1, 999);
        C.refused("none", x, x.built(0, 0, 1, 0, 1, 0, 1), 6);
        x.write(0, 0, 1L << 32);
        C.refused("as great as that", x, x.built(0, 0, 1, 0, 1, 99, 0), 5);
    }
}
