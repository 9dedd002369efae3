import java.util.Arrays;

/** Part 4: which STATUS is first, and that a call that is refused changes nothing else. */
public final class RefusalsTest {

    private static final Checks C = new Checks("RefusalsTest");
    private static final String BUMPED = "row 10 10 10 13;row 10 10 10 13;row 10 10 10 13;eye 0;";

    public static void main(String[] args) {
        trays();
        least();
        ribs();
        wet();
        built();
        pairs();
        pairsOfAnEmptyFloor();
        nothingChanges();
        faultsChangeTapeAndFault();
        C.end();
    }

    private static void trays() {
        C.sentence("1, 2, 3");
        FairLines x = new FairLines();
        C.refused("write", x, x.write(4, 60, 1), 1);
        C.refused("write", x, x.write(0, 60, 1), 2);
        C.refused("read", x, x.read(4, 60), 1);
        C.refused("read", x, x.read(0, 60), 2);
        x.tray(0, 0, 60);
        C.refused("write", x, x.write(0, 60, 1), 3);
        C.refused("read", x, x.read(0, 60), 3);
        C.sentence("1: below 0, too; 2; 8; 3; asked in this order");
        x.tray(1, 1, 1);
        for (int from : new int[] {1, 2}) {
            int to = 3 - from;
            C.refused("no TRAY", x, x.pour(from, 9, 4, 9, 9), 1);
            C.refused("no TRAY", x, x.pour(-1, 9, to, 9, 9), 1);
            C.refused("place below 0", x, x.pour(from, -1, to, 9, 9), 1);
            C.refused("at below 0", x, x.pour(from, 9, to, -1, 9), 1);
            C.refused("many below 0", x, x.pour(from, 9, to, 9, -1), 1);
            C.refused("one MISSING", x, x.pour(from, 9, to, 9, 9), 2);
        }
        x.tray(2, 2, 1);
        C.refused("unlike, too few", x, x.pour(1, 9, 2, 9, 9), 8);
        C.refused("unlike, enough", x, x.pour(1, 0, 2, 0, 1), 8);
        C.refused("unlike, none", x, x.pour(1, 0, 2, 0, 0), 8);
        x.tray(2, 1, 1);
        C.refused("too few", x, x.pour(1, 9, 2, 9, 9), 3);
        C.refused("too few here", x, x.pour(1, 1, 2, 0, 1), 3);
        C.refused("too few there", x, x.pour(1, 0, 2, 1, 1), 3);
        C.answered("enough", x, Checks.is(x.pour(1, 0, 2, 0, 1)), 1);
    }

    private static void least() {
        C.sentence("least (1, 2, 3, 5, 6; in this order)");
        FairLines x = Checks.withBook(BUMPED);
        C.refused("many, MISSING", x, x.least(0, 6, 1), 1);
        C.refused("by, MISSING", x, x.least(0, 2, 4), 1);
        C.refused("MISSING", x, x.least(0, 2, 1), 2);
        Checks.fill(x, 0, 3, 99);
        C.refused("by, too few", x, x.least(0, 2, 0), 1);
        C.refused("too few, no POINT", x, x.least(0, 2, 1), 3);
        C.refused("by, no POINT", x, x.least(0, 1, 0), 1);
        C.refused("no POINT, none does", x, x.least(0, 1, 1), 5);
        x.write(0, 0, 3);
        C.refused("by, none does", x, x.least(0, 1, 0), 1);
        C.refused("none does", x, x.least(0, 1, 1), 6);
        Checks.fill(x, 0, 3, 3, 11, 19);
        C.answered("three do", x, x.least(0, 3, 3), 9);
    }

    private static void ribs() {
        C.sentence("ribs (1, 2, 3, 5; 6; in this order)");
        FairLines x = Checks.withBook(BUMPED);
        C.refused("many, MISSING", x, x.ribs(0, 11), 1);
        C.refused("fewer, MISSING", x, x.ribs(0, 2), 2);
        Checks.fill(x, 0, 3, -1);
        C.refused("many, too few", x, x.ribs(0, 0), 1);
        C.refused("too few, can't be, fewer", x, x.ribs(0, 2), 3);
        C.refused("can't be, fewer", x, x.ribs(0, 1), 5);
        x.write(0, 0, 1);
        C.refused("fewer", x, x.ribs(0, 1), 6);
        Checks.fill(x, 0, 3, 1, 2, 3, -1);
        C.answered("as many as are asked for", x, x.ribs(0, 3), 3);
        FairLines none = new FairLines();
        Checks.fill(none, 0, 3, -1, 3);
        C.refused("can't be, no STATION", none, none.ribs(0, 1), 5);
        C.refused("too few, no STATION", none, none.ribs(0, 3), 3);
        none.write(0, 0, 1);
        C.refused("no STATION", none, none.ribs(0, 1), 6);
        C.sentence("rib (6: there was none, asked first; 1: no such STATION then)");
        C.refused("none, no STATION", none, none.rib(-1), 6);
        C.refused("none, no STATION", none, none.rib(8), 6);
        C.refused("a STATION then", x, x.rib(3), 1);
    }

    private static void wet() {
        C.sentence("wet (1, 2, 3, 5; for 1, 2, 4, 5: 6: none)");
        FairLines x = new FairLines();
        C.refused("what, MISSING", x, x.wet(0, 1, 6), 1);
        C.refused("many, MISSING", x, x.wet(0, 21, 1), 1);
        C.refused("MISSING", x, x.wet(0, 1, 1), 2);
        Checks.fill(x, 0, 3, -1, 0);
        C.refused("many, too few", x, x.wet(0, 0, 1), 1);
        C.refused("too few, can't be", x, x.wet(0, 1, 1), 3);
        Checks.fill(x, 0, 3, 100, 200, 2, 100, 200);
        C.refused("too few, can't be", x, x.wet(0, 2, 1), 3);
        C.refused("can't be, none", x, x.wet(0, 1, 1), 5);
        for (int side = 0; side < 2; side++) {
            x.write(0, 2, side);
            C.answered("how many", x, x.wet(0, 1, 3 * side), 0);
            C.refused("no least", x, x.wet(0, 1, 3 * side + 1), 6);
            C.refused("no most", x, x.wet(0, 1, 3 * side + 2), 6);
            C.answered("how many of the other side", x, x.wet(0, 1, 3 - 3 * side), 101);
            C.answered("its least", x, x.wet(0, 1, 4 - 3 * side), -50);
            C.answered("its most", x, x.wet(0, 1, 5 - 3 * side), 50);
        }
    }

    private static void built() {
        C.sentence("built (1, 2, 3, 5; for 1: 6; in this order)");
        FairLines x = Checks.withBook("row 1 2 3;");
        C.refused("what, MISSING", x, x.built(0, 0, 1, 0, 1, 0, 2), 1);
        C.refused("slack, MISSING", x, x.built(0, 0, 1, 0, 1, 100, 1), 1);
        C.refused("MISSING", x, x.built(0, 0, 1, 0, 1, 0, 1), 2);
        Checks.fill(x, 0, 3, 9);
        C.refused("n, too few", x, x.built(0, 0, 0, 0, 1, 0, 1), 1);
        C.refused("too few, no POINT", x, x.built(0, 0, 1, 0, 1, 0, 1), 3);
        Checks.fill(x, 0, 3, 0, 9, 3);
        C.refused("too few, no POINT", x, x.built(0, 0, 1, 0, 2, 0, 1), 3);
        Checks.fill(x, 0, 3, 0, 9, 3, 9);
        C.refused("no POINT, none", x, x.built(0, 0, 1, 0, 2, 0, 1), 5);
        C.refused("no POINT", x, x.built(0, 0, 1, 0, 2, 0, 0), 5);
        C.answered("how many", x, x.built(0, 0, 1, 0, 1, 0, 0), 0);
        C.refused("no first", x, x.built(0, 0, 1, 0, 1, 0, 1), 6);
        FairLines none = new FairLines();
        Checks.fill(none, 0, 3, 0, 0);
        C.refused("no POINT at all", none, none.built(0, 0, 1, 0, 1, 0, 0), 5);
    }

    private static void pairs() {
        FairLines x = Checks.withBook(BUMPED + "keep 0 0;");
        C.sentence("move (1; 7: it is KEPT), keep (1, 7)");
        C.refused("BREADTH, KEPT", x, x.move(0, 1000), 1);
        C.refused("KEPT", x, x.move(0, 999), 7);
        C.refused("KEPT, as it stands", x, x.move(0, 10), 7);
        C.answered("as it stands", x, Checks.is(x.move(1, 10)), 1);
        C.refused("KEPT already", x, x.keep(0, true), 7);
        C.refused("free already", x, x.keep(1, false), 7);
        C.refused("no POINT, free", x, x.keep(4, false), 1);
        C.answered("free", x, Checks.is(x.keep(0, false)), 1);
        C.refused("free already", x, x.keep(0, false), 7);
        C.answered("KEPT", x, Checks.is(x.keep(0, true)), 1);
        C.sentence("bend, bevel, lath (1; 6)");
        C.refused("no PLACE", x, x.bend(0, 0, 4), 1);
        C.refused("an end", x, x.bend(0, 0, 3), 6);
        C.refused("no POINT of the last STATION", x, x.bevel(20), 1);
        C.refused("the last STATION", x, x.bevel(19), 6);
        C.refused("no DUCK, no PLACE", x, x.lath(0, 0, 0, 4), 1);
        C.refused("a DUCK beyond, one alone", x, x.lath(0, 0, 16, 3), 1);
        C.refused("one DUCK", x, x.lath(0, 0, 8, 3), 6);
        C.sentence("where, slip (1: k below 0, too; 6)");
        C.refused("what, beyond", x, x.where(3, 3), 1);
        C.refused("beyond", x, x.where(3, 2), 6);
        C.refused("below, what", x, x.where(-1, 3), 1);
        C.refused("what, beyond", x, x.slip(3, 2), 1);
        C.refused("beyond", x, x.slip(3, 1), 6);
        C.refused("below", x, x.slip(-1, 1), 1);
        C.sentence("planks (1; 6: a STRIP is wider)");
        C.refused("tree 0", x, x.planks(0), 1);
        C.refused("wider than a tree of 9", x, x.planks(9), 6);
    }

    private static void pairsOfAnEmptyFloor() {
        FairLines x = new FairLines();
        C.sentence("(1; 6: there was none)");
        C.refused("ended", x, x.ended(3), 1);
        C.refused("ended", x, x.ended(-1), 1);
        for (int what = 0; what < 3; what++) {
            C.refused("ended", x, x.ended(what), 6);
        }
        C.refused("ran", x, x.ran(2), 1);
        C.refused("ran", x, x.ran(1), 6);
        C.refused("leastMove", x, x.leastMove(-1), 1);
        C.refused("leastMove", x, x.leastMove(0), 6);
        C.refused("plank", x, x.plank(-2), 1);
        C.refused("plank", x, x.plank(-1), 6);
        C.refused("plank", x, x.plank(0), 6);
        C.refused("where", x, x.where(0, 3), 1);
        C.refused("where", x, x.where(0, 0), 6);
        C.refused("slip", x, x.slip(0, 2), 1);
        C.refused("slip", x, x.slip(0, 0), 6);
        C.refused("planks", x, x.planks(10000), 1);
        C.refused("planks: no STRIP", x, x.planks(9999), 6);
        C.refused("apart", x, x.apart(0, 0, 41, 0), 1);
        C.refused("apart: no POINTS", x, x.apart(0, 0, 40, 0), 6);
        C.refused("apart: no POINTS", x, x.apart(0, 0, 2, 1), 6);
        C.refused("back", x, x.back(), 6);
        C.sentence("No STATIONS, WATERS");
        C.refused("point", x, x.point(0, 0), 1);
        C.refused("move", x, x.move(0, 0), 1);
        C.refused("keep", x, x.keep(0, true), 1);
        C.refused("bend", x, x.bend(0, 0, 0), 1);
        C.refused("unfair", x, x.unfair(0, 0), 1);
        C.refused("strain", x, x.strain(1, 0), 1);
        C.refused("lath", x, x.lath(2, 0, 3, 0), 1);
        C.refused("crook", x, x.crook(0), 1);
        C.refused("bevel", x, x.bevel(0), 1);
        C.refused("width", x, x.width(0, 0), 1);
        C.refused("length", x, x.length(0), 1);
        C.refused("banana", x, x.banana(0), 1);
        C.refused("boat", x, x.boat(0, 0, 0, 0), 1);
        C.refused("volume", x, x.volume(1), 1);
        C.refused("centre", x, x.centre(1), 1);
        C.refused("carried", x, x.carried(1, 0, 0), 1);
        C.answered("unfairAll", x, x.unfairAll(), 0);
        C.answered("slips", x, x.slips(), 0);
        for (int what = 0; what < 3; what++) {
            C.answered("given", x, x.given(what), 0);
            C.answered("LINES", x, x.lines(what, -1), 0);
            C.refused("no LINE", x, x.lines(what, 0), 1);
        }
    }

    /** All that can be asked for without a change. */
    private static long[] told(FairLines x) {
        long[] all = new long[700];
        int n = 0;
        for (int tray = 0; tray < 4; tray++) {
            for (int place = 0; place < 61; place++) {
                all[n++] = x.read(tray, place) * 10 + x.status();
            }
            for (int other = 0; other < 4; other++) {
                x.pour(tray, 0, other, 0, 0);
                all[n++] = x.status();
            }
        }
        for (int point = 0; point < 64; point++) {
            for (int what = 0; what < 3; what++) {
                all[n++] = x.point(point, what);
            }
        }
        for (int k = -1; k < 9; k++) {
            long[] asked = {x.told(k), x.view(k), x.ended(k), x.leastMove(k), x.rib(k), x.plank(k),
                x.ran(k), x.fault(k)};
            for (long answer : asked) {
                all[n++] = answer;
            }
        }
        all[n++] = x.top();
        all[n] = x.bottom();
        return all;
    }

    /** A floor on which something was done by every call that is told of later. */
    private static FairLines busy() {
        FairLines x = Checks.withBook("row 10 20 30 40 50;row 11 22 33 45 58;row 12 24 36 50 66;"
                + "row 13 26 39 55 74;row 14 28 42 60 82;eye 9;step 2;keep 0 0;"
                + "order slants waters;");
        x.mark();
        x.mark();
        Checks.fill(x, 0, 1, 1, 2, 3, 4, 5);
        Checks.fill(x, 1, 1, 8, 9, 10);
        Checks.fill(x, 2, 0, 10, 11, 0);
        x.move(18, 50);
        x.rounds(3);
        x.ribs(0, 5);
        x.planks(40);
        Checks.way(x, "move 1 1 23;ease 2;");
        x.run();
        x.least(1, 2, 1);
        x.lath(0, 1, 19, 2);
        Checks.book(x, "space 0;");
        Checks.feed(x, "ease 1;row 1 2 3;xxx");
        return x;
    }

    private static void nothingChanges() {
        C.sentence("With another STATUS than 0 a call gives NONE, or false, and changes nothing "
                + "else");
        FairLines x = busy();
        C.answered("a third MARK", x, x.mark(), 3);
        long[] ahead = told(x);
        Object[][] calls = refusedCalls();
        for (Object[] one : calls) {
            C.refused("" + one[0], x, ((Checks.Call) one[1]).on(x, 0), (int) one[2]);
            C.due(one[0] + " changes nothing", Arrays.equals(told(x), ahead), true);
        }
        C.sentence("changes nothing else: the tape, the WAY, MARKS");
        C.due("the tape", x.feed(0, 0, 0, 0, 0), 40);
        C.answered("the tape's bytes", x, x.way(7), 1);
        C.answered("two MARKS left", x, x.back(), 2);
        C.due("as ahead", x.point(9, 0), 23);
        C.answered("the WAY", x, x.run(), 2);
    }

    private static Object[][] refusedCalls() {
        return new Object[][] {
            {"tray", call((x, n) -> Checks.is(x.tray(0, 0, 61))), 1},
            {"tray", call((x, n) -> Checks.is(x.tray(4, 0, 1))), 1},
            {"tray", call((x, n) -> Checks.is(x.tray(0, 4, 1))), 1},
            {"write", call((x, n) -> Checks.is(x.write(4, 0, 9))), 1},
            {"write", call((x, n) -> Checks.is(x.write(3, 0, 9))), 2},
            {"write", call((x, n) -> Checks.is(x.write(0, 5, 9))), 3},
            {"write", call((x, n) -> Checks.is(x.write(1, -1, 9))), 3},
            {"pour", call((x, n) -> Checks.is(x.pour(0, -1, 1, 0, 2))), 1},
            {"pour", call((x, n) -> Checks.is(x.pour(0, 0, 3, 0, 2))), 2},
            {"pour", call((x, n) -> Checks.is(x.pour(0, 0, 2, 0, 2))), 8},
            {"pour", call((x, n) -> Checks.is(x.pour(0, 3, 1, 0, 3))), 3},
            {"pour", call((x, n) -> Checks.is(x.pour(0, 0, 1, 1, 3))), 3},
            {"book", call((x, n) -> x.book(21)), 1},
            {"book", call((x, n) -> x.book(-1)), 1},
            {"way", call((x, n) -> x.way(21)), 1},
            {"way", call((x, n) -> x.way(-1)), 1},
            {"move", call((x, n) -> Checks.is(x.move(1, 1000))), 1},
            {"move", call((x, n) -> Checks.is(x.move(5, 10))), 1},
            {"move", call((x, n) -> Checks.is(x.move(0, 99))), 7},
            {"keep", call((x, n) -> Checks.is(x.keep(5, true))), 1},
            {"keep", call((x, n) -> Checks.is(x.keep(0, true))), 7},
            {"keep", call((x, n) -> Checks.is(x.keep(1, false))), 7},
            {"bend", call((x, n) -> x.bend(0, 0, 0)), 6},
            {"where", call((x, n) -> x.where(-1, 0)), 1},
            {"lath", call((x, n) -> Checks.is(x.lath(0, 2, 32, 0))), 1},
            {"lath", call((x, n) -> Checks.is(x.lath(0, 2, 1, 0))), 6},
            {"rounds", call((x, n) -> x.rounds(0)), 1},
            {"rounds", call((x, n) -> x.rounds(61)), 1},
            {"ended", call((x, n) -> x.ended(3)), 1},
            {"least", call((x, n) -> x.least(1, 6, 1)), 1},
            {"least", call((x, n) -> x.least(3, 1, 1)), 2},
            {"least", call((x, n) -> x.least(1, 4, 1)), 3},
            {"least", call((x, n) -> x.least(2, 3, 1)), 5},
            {"leastMove", call((x, n) -> x.leastMove(2)), 6},
            {"slip", call((x, n) -> x.slip(-1, 0)), 1},
            {"ran", call((x, n) -> x.ran(2)), 1},
            {"given", call((x, n) -> x.given(3)), 1},
            {"ribs", call((x, n) -> x.ribs(0, 11)), 1},
            {"ribs", call((x, n) -> x.ribs(3, 5)), 2},
            {"ribs", call((x, n) -> x.ribs(0, 6)), 3},
            {"ribs", call((x, n) -> x.ribs(0, 4)), 6},
            {"rib", call((x, n) -> x.rib(5)), 1},
            {"bevel", call((x, n) -> Checks.is(x.bevel(0))), 6},
            {"width", call((x, n) -> x.width(4, 0)), 1},
            {"planks", call((x, n) -> x.planks(0)), 1},
            {"planks", call((x, n) -> x.planks(5)), 6},
            {"plank", call((x, n) -> x.plank(9)), 6},
            {"wet", call((x, n) -> x.wet(0, 1, 6)), 1},
            {"wet", call((x, n) -> x.wet(0, 1, 1)), 5},
            {"boat", call((x, n) -> x.boat(0, 0, 40, 0)), 1},
            {"apart", call((x, n) -> x.apart(0, 0, 1, 0)), 1},
            {"built", call((x, n) -> x.built(0, 0, 1, 0, 3, 0, 0)), 3},
            {"built", call((x, n) -> x.built(0, 0, 1, 0, 1, 0, 1)), 6},
            {"volume", call((x, n) -> Checks.is(x.volume(0))), 1},
            {"centre", call((x, n) -> Checks.is(x.centre(5))), 1},
            {"carried", call((x, n) -> Checks.is(x.carried(1, 0, 1000))), 1},
            {"mark", call((x, n) -> x.mark()), 4},
        };
    }

    private static Checks.Call call(Checks.Call one) {
        return one;
    }

    private static void faultsChangeTapeAndFault() {
        C.sentence("changes nothing else (but book(), way() with 9 the tape, and what fault() "
                + "tells)");
        for (int turn = 0; turn < 2; turn++) {
            FairLines x = busy();
            long[] ahead = told(x);
            C.refused("a FAULT", x, turn == 0 ? x.book(20) : x.way(20), 9);
            C.due("kind", x.fault(0), 2);
            C.due("place", x.fault(1), turn == 0 ? 0 : 7);
            long[] then = told(x);
            int unlike = 0;
            for (int i = 0; i < ahead.length; i++) {
                unlike += ahead[i] == then[i] ? 0 : 1;
            }
            C.due("its kind and its place alone", unlike, 2);
            C.due("the tape is empty", x.feed(0, 0, 0, 0, 0), 20);
            x.back();
            C.answered("the WAY of the MARK", x, x.run(), 0);
        }
        C.sentence("nothing is moved");
        FairLines x = Checks.withBook(BUMPED);
        Checks.fill(x, 0, 3, 3, 11, 2, 10);
        long[] ahead = told(x);
        C.refused("none does", x, x.least(0, 4, 3), 6);
        C.due("all is as ahead", Arrays.equals(told(x), ahead), true);
        C.sentence("back (6)");
        FairLines none = busy();
        none.back();
        none.back();
        long[] left = told(none);
        C.refused("no MARK left", none, none.back(), 6);
        C.due("all is as ahead", Arrays.equals(told(none), left), true);
    }
}
