/** Promises 25 to 30: ROUNDS, LEAST, SLIPS. */
public final class RoundsTest {

    private static final Checks C = new Checks("RoundsTest");

    public static void main(String[] args) {
        rest();
        wishes();
        places();
        ring();
        longRing();
        least();
        leastTies();
        leastRefused();
        slips();
        slipsWhenFair();
        slipsFromAllSides();
        C.end();
    }

    private static void rest() {
        FairLines x = Checks.water("step 4;", 0, 0, 10, 0, 0);
        C.refused("ended ahead of any", x, x.ended(0), 6);
        C.refused("what 3 ahead of any", x, x.ended(3), 1);
        C.refused("no ROUND", x, x.rounds(0), 1);
        C.refused("61 ROUNDS", x, x.rounds(61), 1);
        C.refused("still none", x, x.ended(0), 6);
        C.answered("one", x, x.rounds(1), 1);
        C.due("by STEP", x.point(16, 0), 6);
        C.answered("so many", x, x.ended(0), 0);
        C.answered("to the end", x, x.rounds(60), 3);
        C.due("10, 6, 2, 0 and one that moves nothing", x.point(16, 0), 0);
        C.answered("REST", x, x.ended(0), 1);
        C.refused("no RING", x, x.ended(1), 6);
        C.refused("no RING", x, x.ended(2), 6);
        C.refused("what -1", x, x.ended(-1), 1);
        C.refused("61 ROUNDS", x, x.rounds(61), 1);
        C.answered("of the latest with STATUS 0", x, x.ended(0), 1);
        FairLines none = new FairLines();
        C.answered("no POINTS", none, none.rounds(60), 1);
        C.answered("REST", none, none.ended(0), 1);
        FairLines last = Checks.water("step 4;", 0, 0, 8, 0, 0);
        C.answered("the last one moves nothing", last, last.rounds(3), 3);
        C.answered("REST", last, last.ended(0), 1);
    }

    private static void wishes() {
        FairLines up = Checks.water("step 99;", 0, 10, 0, 9, 0);
        up.rounds(1);
        C.due("76 and 3 by 6, rounded down", up.point(16, 0), 13);
        FairLines half = Checks.water("step 99;", 0, 3, 0, 0, 3);
        half.rounds(1);
        C.due("9 and 3 by 6", half.point(16, 0), 2);
        FairLines less = Checks.water("step 99;", 0, 3, 0, 0, 4);
        less.rounds(1);
        C.due("8 and 3 by 6, rounded down", less.point(16, 0), 1);
        FairLines low = Checks.water("step 99;", 500, 0, 40, 0, 500);
        low.rounds(1);
        C.due("not below 0", low.point(16, 0), 0);
        FairLines high = Checks.water("step 99;", 0, 999, 950, 999, 0);
        high.rounds(1);
        C.due("not above 999", high.point(16, 0), 999);
        FairLines kept = Checks.water("keep 2 0;", 0, 10, 0, 9, 0);
        C.answered("KEPT", kept, kept.rounds(5), 1);
        C.due("it stays", kept.point(16, 0), 0);
        FairLines not = Checks.water("order stations slants;", 0, 10, 0, 9, 0);
        C.answered("WATERS are not in ORDER", not, not.rounds(5), 1);
    }

    /** Six STATIONS: the second mover sees where the first one has gone. */
    private static void places() {
        FairLines x = Checks.water("step 99;", 0, 0, 60, 0, 0, 0);
        x.rounds(1);
        C.due("PLACE 2", x.point(16, 0), 0);
        C.due("PLACE 3 behind it", x.point(24, 0), 0);
        FairLines y = Checks.water("step 99;", 0, 0, 0, 60, 0, 0);
        y.rounds(1);
        C.due("PLACE 2: 240 and 3 by 6", y.point(16, 0), 40);
        C.due("PLACE 3: 160 and 3 by 6", y.point(24, 0), 27);
    }

    /** Only the middle of 5 by 5 moves: a STATION wants it at 0, a WATER at 60. */
    private static FairLines quarrel(String more) {
        String plain = "row 0 0 0 0 0;";
        String high = "row 0 0 45 0 0;";
        return Checks.withBook(plain + high + "row 0 0 30 0 0;" + high + plain
                + "keep 1 2;keep 3 2;" + more);
    }

    private static void ring() {
        FairLines x = quarrel("order stations waters;step 1;");
        C.answered("down and up again", x, x.rounds(60), 1);
        C.answered("a RING", x, x.ended(0), 2);
        C.answered("none ahead of it", x, x.ended(1), 0);
        C.answered("one in it", x, x.ended(2), 1);
        C.due("as it was", x.point(18, 0), 30);
        FairLines far = quarrel("order stations waters;step 99;");
        C.answered("from 30 to 0 to 60, then round", far, far.rounds(60), 2);
        C.answered("a RING", far, far.ended(0), 2);
        C.answered("one ahead of it", far, far.ended(1), 1);
        C.answered("one in it", far, far.ended(2), 1);
        C.due("60", far.point(18, 0), 60);
        C.refused("what 3", far, far.ended(3), 1);
        C.answered("at the last one", far, far.rounds(1), 1);
        C.answered("a RING", far, far.ended(0), 2);
        Checks.way(far, "free 0 0;ease 5;");
        far.move(18, 0);
        far.run();
        C.answered("ease changes it not", far, far.ended(1), 0);
    }

    /** Rounding lets several POINTS go round; such floors were found by trying many. */
    private static void longRing() {
        FairLines x = Checks.withBook("row 5 0 4 4 3;row 4 5 0 0 3;row 3 5 0 6 0;row 2 2 6 3 2;"
                + "row 1 3 0 5 3;row 6 6 3 2 3;row 5 5 5 0 4;step 1;order slants waters waters;");
        C.answered("into the RING", x, x.rounds(60), 7);
        C.answered("a RING", x, x.ended(0), 2);
        C.answered("four ahead of it", x, x.ended(1), 4);
        C.answered("three in it", x, x.ended(2), 3);
        int[] were = floor(x);
        C.answered("two more", x, x.rounds(2), 2);
        C.answered("so many", x, x.ended(0), 0);
        C.refused("no RING of these", x, x.ended(2), 6);
        C.due("it is elsewhere", java.util.Arrays.equals(were, floor(x)), false);
        C.answered("one more", x, x.rounds(1), 1);
        C.due("as it was", java.util.Arrays.equals(were, floor(x)), true);
        C.answered("round once more", x, x.rounds(60), 3);
        C.answered("none ahead of it", x, x.ended(1), 0);
        C.answered("three in it", x, x.ended(2), 3);
    }

    private static int[] floor(FairLines x) {
        int[] all = new int[64];
        for (int point = 0; point < 64; point++) {
            all[point] = x.point(point, 0);
        }
        return all;
    }

    /** With four STATIONS and three WATERS each WATER has one PLACE to be looked at. */
    private static void least() {
        FairLines x = Checks.water("eye 0;", 10, 10, 10, 13);
        Checks.fill(x, 0, 0, 8, 16, 24);
        C.refused("leastMove ahead of any", x, x.leastMove(0), 6);
        C.answered("by one of two", x, x.least(0, 2, 1), 1);
        C.answered("the lesser first", x, x.leastMove(0), -1);
        C.answered("the other stays", x, x.leastMove(1), 0);
        C.refused("no third", x, x.leastMove(2), 6);
        C.refused("below 0", x, x.leastMove(-1), 1);
        C.due("nothing is moved", x.given(0), 0);
        Checks.fill(x, 1, 3, 24);
        C.refused("too little", x, x.least(1, 1, 2), 6);
        C.answered("the one ahead is told", x, x.leastMove(1), 0);
        C.answered("enough", x, x.least(1, 1, 3), 3);
        C.answered("its move", x, x.leastMove(0), -3);
        x.keep(0, true);
        x.move(24, 10);
        C.answered("all fair", x, x.least(0, 3, 3), 0);
        C.answered("no move", x, x.leastMove(2), 0);
        x.move(25, 7);
        C.refused("another WATER is not fair", x, x.least(0, 3, 3), 6);
        x.book(0);
        C.answered("it is told still", x, x.leastMove(2), 0);
    }

    private static void leastTies() {
        // -1 and 27 less 30 and 2 are -2: (-1, 1) or (0, 2), and 0 lets no more than 1 off.
        FairLines x = Checks.water("eye 0;", 1, 9, 10, 2);
        Checks.fill(x, 0, 1, 0, 24);
        C.answered("the fewest moved", x, x.least(0, 2, 2), 2);
        C.answered("the first stays", x, x.leastMove(0), 0);
        C.answered("the second moves", x, x.leastMove(1), 2);
        FairLines y = Checks.water("eye 0;", 10, 10, 10, 13);
        Checks.fill(y, 0, 1, 16, 8);
        C.answered("by one of two, the other way", y, y.least(0, 2, 3), 1);
        C.answered("0 is ahead of 1", y, y.leastMove(0), 0);
        C.answered("-1", y, y.leastMove(1), -1);
        C.due("status tells it", y.status(), 0);
        FairLines high = Checks.water("eye 0;", 999, 999, 999, 996);
        Checks.fill(high, 0, 1, 24, 8, 16);
        C.answered("not above 999", high, high.least(0, 3, 3), 1);
        C.answered("the last goes down", high, high.leastMove(2), -1);
        FairLines eye = Checks.water("eye 2;", 10, 10, 10, 14);
        Checks.fill(eye, 0, 1, 24);
        C.answered("so that EYE is just enough", eye, eye.least(0, 1, 3), 2);
    }

    private static void leastRefused() {
        FairLines x = Checks.water("eye 0;keep 1 0;", 10, 10, 10, 13);
        Checks.fill(x, 0, 3, 24, 16, 0, 24, 8, 3);
        C.refused("no TRAY", x, x.least(4, 1, 1), 1);
        C.refused("none", x, x.least(0, 0, 1), 1);
        C.refused("six", x, x.least(0, 6, 1), 1);
        C.refused("by 0", x, x.least(0, 1, 0), 1);
        C.refused("by 4", x, x.least(0, 1, 4), 1);
        C.refused("a MISSING one by 4", x, x.least(1, 1, 4), 1);
        C.refused("a MISSING one", x, x.least(1, 1, 3), 2);
        C.refused("again", x, x.least(0, 4, 1), 5);
        x.tray(2, 0, 4);
        C.refused("too few", x, x.least(2, 5, 1), 3);
        C.refused("0 again", x, x.least(2, 2, 1), 5);
        x.write(0, 0, 8);
        C.refused("KEPT", x, x.least(0, 1, 1), 5);
        x.write(0, 0, 3);
        C.refused("no POINT", x, x.least(0, 1, 1), 5);
        x.write(0, 0, -1);
        C.refused("below 0", x, x.least(0, 1, 1), 5);
        x.write(0, 0, (1L << 32) + 24);
        C.refused("as great as that", x, x.least(0, 1, 3), 5);
        x.write(0, 0, 24);
        C.answered("one that does", x, x.least(0, 1, 3), 3);
    }

    private static void slips() {
        // -12 and 36 less 36 and 21 are 9: to be 0 by one POINT alone.
        FairLines x = Checks.water("eye 0;", 12, 12, 12, 21);
        int[][] due = {{0, 21}, {16, 15}, {24, 12}};
        C.answered("slips", x, x.slips(), due.length);
        for (int k = 0; k < due.length; k++) {
            C.answered("its POINT", x, x.slip(k, 0), due[k][0]);
            C.answered("its BREADTH", x, x.slip(k, 1), due[k][1]);
        }
        C.refused("beyond", x, x.slip(3, 0), 6);
        C.refused("below", x, x.slip(-1, 0), 1);
        C.refused("what 2", x, x.slip(0, 2), 1);
        C.refused("what -1, beyond", x, x.slip(3, -1), 1);
        C.due("nothing is moved", x.given(0), 0);
        x.keep(16, true);
        C.answered("not of KEPT ones", x, x.slips(), 2);
        C.answered("the second now", x, x.slip(1, 0), 24);
        x.move(25, 1);
        C.answered("two WATERS are not fair", x, x.slips(), 0);
        FairLines far = Checks.water("eye 0;", 210, 12, 12, 12);
        C.answered("first and last figure changed about is none", far, far.slips(), 0);
        FairLines front = Checks.water("eye 0;", 210, 120, 120, 120);
        C.answered("the first two", front, front.slips(), 3);
        C.answered("210 to 120", front, front.slip(0, 1), 120);
        C.answered("120 to 150", front, front.slip(1, 1), 150);
        C.answered("120 to 210", front, front.slip(2, 1), 210);
    }

    /** On 4 by 4 a POINT that is off is seen from all sides, so it alone can be the slip. */
    private static void slipsFromAllSides() {
        String row = "row 100 100 100 100;";
        int[] points = {0, 9, 18, 27, 3, 10, 17, 24, 1, 16};
        for (int point : points) {
            FairLines x = Checks.withBook(row + row + row + row + "eye 0;");
            C.answered("flat", x, x.slips(), 0);
            x.move(point, 150);
            C.answered("one", x, x.slips(), 1);
            C.answered("its POINT", x, x.slip(0, 0), point);
            C.answered("its BREADTH", x, x.slip(0, 1), 100);
            x.move(point, 103);
            Checks.fill(x, 0, 2, 2, point, 19);
            C.answered("LEAST", x, x.least(0, 3, 3), 3);
            C.answered("of it alone", x, x.leastMove(1), -3);
            C.answered("not of others", x, x.leastMove(0), 0);
            C.answered("not of others", x, x.leastMove(2), 0);
        }
        // BENDS differ by 20 along STATION 0 and WATER 0, and by as much and 2 along the slant.
        FairLines x = Checks.withBook("row 120 100 100 100;" + row + row + "row 100 100 100 110;"
                + "eye 20;");
        Checks.fill(x, 0, 2, 0);
        C.answered("fair already", x, x.least(0, 1, 3), 0);
        x.move(27, 90);
        C.answered("by the slant alone", x, x.unfairAll(), 1);
        C.refused("10 too much", x, x.least(0, 1, 3), 6);
        x.move(27, 98);
        C.answered("2 too much", x, x.least(0, 1, 3), 2);
        C.answered("down", x, x.leastMove(0), -2);
    }

    /** No LINE has four PLACES, so all is fair, whatever stands there. */
    private static void slipsWhenFair() {
        FairLines x = Checks.withBook("row 123 0 0;");
        C.answered("123: 27 and 2; 000: 27 each", x, x.slips(), 29 + 27 + 27);
        int[] due = {23, 103, 113, 120, 121, 122, 124};
        for (int k = 0; k < due.length; k++) {
            C.answered("as they rise", x, x.slip(k, 1), due[k]);
        }
        C.answered("the last", x, x.slip(28, 1), 923);
        C.answered("the next POINT", x, x.slip(29, 0), 1);
        C.answered("1 to 9", x, x.slip(29, 1), 1);
        C.answered("900", x, x.slip(55, 1), 900);
        FairLines two = Checks.withBook("row 200 900 999;");
        C.answered("27 and 020, 27 and 090, 27", two, two.slips(), 28 + 28 + 27);
        C.answered("000", two, two.slip(0, 1), 0);
        C.answered("020", two, two.slip(1, 1), 20);
    }
}
