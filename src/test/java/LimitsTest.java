/** The least and the greatest number of every call, and what lies beyond, promise by promise. */
public final class LimitsTest {

    private static final Checks C = new Checks("LimitsTest");

    public static void main(String[] args) {
        trays();
        pours();
        books();
        floors();
        pointNumbers();
        lines();
        laths();
        roundsAndLeast();
        slips();
        ways();
        ribs();
        shapes();
        wet();
        boats();
        built();
        afloat();
        inTrays();
        C.end();
    }

    /** Three STATIONS by four WATERS, nothing UNFAIR. */
    private static FairLines ship() {
        return Checks.withBook("row 10 20 30 40;row 11 21 31 41;row 12 22 32 42;");
    }

    /** All four TRAYS have sixty numbers of 64 bits. */
    private static FairLines full() {
        FairLines x = ship();
        for (int tray = 0; tray < 4; tray++) {
            x.tray(tray, 3, 60);
        }
        return x;
    }

    private static FairLines fed() {
        FairLines x = new FairLines();
        Checks.feed(x, " ".repeat(20));
        return x;
    }

    private static void trays() {
        C.sentence("TRAYS 0 to 3");
        C.limits("tray", FairLines::new, 0, 3, (x, n) -> Checks.is(x.tray(n, 0, 1)));
        C.limits("write", LimitsTest::full, 0, 3, (x, n) -> Checks.is(x.write(n, 0, 1)));
        C.limits("read", LimitsTest::full, 0, 3, (x, n) -> x.read(n, 0));
        C.sentence("8 bits (sort 0), 16 (1), 32 (2) or 64 (3)");
        C.limits("sort", FairLines::new, 0, 3, (x, n) -> Checks.is(x.tray(0, n, 1)));
        C.sentence("rows of 0 to 60 numbers");
        C.limits("many", FairLines::new, 0, 60, (x, n) -> Checks.is(x.tray(0, 0, n)));
        C.sentence("3 a place that the TRAY has not");
        C.limits("write", LimitsTest::full, 0, 59, 3, 3, (x, n) -> Checks.is(x.write(1, n, 1)));
        C.limits("read", LimitsTest::full, 0, 59, 3, 3, (x, n) -> x.read(1, n));
        for (int tray = 0; tray < 4; tray++) {
            int which = tray;
            C.sentence("TRAYS are MISSING at first");
            FairLines none = new FairLines();
            C.refused("write", none, none.write(which, 0, 1), 2);
            C.refused("read", none, none.read(which, 0), 2);
            C.sentence("a row of so many 0s");
            FairLines x = full();
            for (int place = 0; place < 60; place++) {
                C.answered("read " + place, x, x.read(which, place), 0);
                x.write(which, place, 7);
            }
            x.tray(which, 3, 60);
            C.answered("the first, laid anew", x, x.read(which, 0), 0);
            C.answered("the last, laid anew", x, x.read(which, 59), 0);
        }
    }

    private static void pours() {
        C.sentence("1: below 0, too; 2; 8; 3");
        C.limits("from", LimitsTest::full, 0, 3, (x, n) -> Checks.is(x.pour(n, 0, 1, 0, 1)));
        C.limits("to", LimitsTest::full, 0, 3, (x, n) -> Checks.is(x.pour(1, 0, n, 0, 1)));
        C.limits("place", LimitsTest::full, 0, 59, 1, 3,
                (x, n) -> Checks.is(x.pour(0, n, 1, 0, 1)));
        C.limits("at", LimitsTest::full, 0, 59, 1, 3,
                (x, n) -> Checks.is(x.pour(0, 0, 1, n, 1)));
        C.limits("many", LimitsTest::full, 0, 60, 1, 3,
                (x, n) -> Checks.is(x.pour(0, 0, 1, 0, n)));
        C.limits("many of the last ones", LimitsTest::full, 0, 5, 1, 3,
                (x, n) -> Checks.is(x.pour(0, 55, 1, 0, n)));
        C.limits("many to the last ones", LimitsTest::full, 0, 5, 1, 3,
                (x, n) -> Checks.is(x.pour(0, 0, 1, 55, n)));
        C.limits("many within the same", LimitsTest::full, 0, 5, 1, 3,
                (x, n) -> Checks.is(x.pour(2, 0, 2, 55, n)));
    }

    private static void books() {
        C.sentence("1: n below 0, or more than the tape has, too");
        C.limits("book", LimitsTest::fed, 0, 20, (x, n) -> x.book(n));
        C.limits("way", LimitsTest::fed, 0, 20, (x, n) -> x.way(n));
        C.limits("book of an empty tape", FairLines::new, 0, 0, (x, n) -> x.book(n));
        C.limits("way of an empty tape", FairLines::new, 0, 0, (x, n) -> x.way(n));
        C.limits("book of a full tape", LimitsTest::fullTape, 0, 600, (x, n) -> x.book(n));
        C.sentence("or above 300");
        C.limits("way of a full tape", LimitsTest::fullTape, 0, 300, (x, n) -> x.way(n));
        C.sentence("told (1), view (1: below 0; 6)");
        C.limits("told", LimitsTest::ship, 0, 6, (x, n) -> x.told(n));
        C.limits("view", LimitsTest::ship, 0, 2, 1, 6, (x, n) -> x.view(n));
        C.limits("view of one", () -> Checks.withBook("order slants;"), 0, 0, 1, 6,
                (x, n) -> x.view(n));
        C.limits("view of six", () -> Checks.withBook("order slants slants slants slants slants "
                + "slants;"), 0, 5, 1, 6, (x, n) -> x.view(n));
        C.sentence("NONE for others");
        for (int what : new int[] {Integer.MIN_VALUE, -1, 2, 3, Integer.MAX_VALUE}) {
            C.due("fault " + what, ship().fault(what), -1);
        }
        C.due("fault 0", ship().fault(0), 0);
    }

    private static FairLines fullTape() {
        FairLines x = new FairLines();
        Checks.feed(x, " ".repeat(600));
        return x;
    }

    private static void floors() {
        C.sentence("of a POINT, what 0, 1, 2 (1)");
        C.limits("point", LimitsTest::ship, 0, 2, (x, n) -> x.point(0, n));
        C.sentence("another BREADTH on the floor (0 to 999)");
        C.limits("move", LimitsTest::ship, 0, 999, (x, n) -> Checks.is(x.move(19, n)));
        C.sentence("GIVEN, what 0, 1, 2 (1)");
        C.limits("given", LimitsTest::ship, 0, 2, (x, n) -> x.given(n));
        C.sentence("CROOK of a STATION (1)");
        C.limits("crook", LimitsTest::ship, 0, 2, (x, n) -> x.crook(n));
    }

    /** A call asks for a POINT: no other number is one, those of each STATION have a STATUS. */
    private static void points(String what, Checks.Call call, int... due) {
        for (int number = -20; number <= 90; number++) {
            int station = Math.floorDiv(number, 8);
            int water = Math.floorMod(number, 8);
            boolean is = station >= 0 && station <= 2 && water <= 3;
            C.status(what, LimitsTest::ship, call, number, is ? due[station] : 1);
        }
        for (int far : new int[] {Integer.MIN_VALUE, Integer.MIN_VALUE + 8, Integer.MAX_VALUE,
            1 << 16, 1 << 30, 256, -256}) {
            C.status(what, LimitsTest::ship, call, far, 1);
        }
    }

    private static void pointNumbers() {
        C.sentence("POINT s, w: of STATION s at WATER w; as one number 8 times s and w");
        points("point", (x, n) -> x.point(n, 0), 0, 0, 0);
        points("move", (x, n) -> Checks.is(x.move(n, 5)), 0, 0, 0);
        points("keep", (x, n) -> Checks.is(x.keep(n, true)), 0, 0, 0);
        points("boat", (x, n) -> x.boat(0, 0, 0, n), 0, 0, 0);
        points("carried", (x, n) -> Checks.is(x.carried(1, n, 5)), 0, 0, 0);
        points("bevel", (x, n) -> Checks.is(x.bevel(n)), 6, 0, 6);
        C.sentence("at most 8 STATIONS, 3 to 6 WATERS");
        FairLines big = Checks.withBook("row 1 2 3 4 5 6;".repeat(8));
        C.answered("the last POINT of all", big, big.point(61, 0), 6);
        C.refused("WATER 6", big, big.point(62, 0), 1);
        C.refused("WATER 7", big, big.point(63, 0), 1);
        C.refused("STATION 8", big, big.point(64, 0), 1);
    }

    private static void lines() {
        int[] last = {2, 3, 5};
        int[] places = {4, 3, 1};
        for (int view = 0; view < 3; view++) {
            int v = view;
            int line = last[view];
            C.sentence("how many LINES a VIEW has (line NONE), how many PLACES a LINE (1)");
            C.status("NONE", LimitsTest::ship, (x, n) -> x.lines(v, n), -1, 0);
            C.status("below NONE", LimitsTest::ship, (x, n) -> x.lines(v, n), -2, 1);
            C.status("far below", LimitsTest::ship, (x, n) -> x.lines(v, n), Integer.MIN_VALUE, 1);
            C.status("the first", LimitsTest::ship, (x, n) -> x.lines(v, n), 0, 0);
            C.status("the last", LimitsTest::ship, (x, n) -> x.lines(v, n), line, 0);
            C.status("beyond", LimitsTest::ship, (x, n) -> x.lines(v, n), line + 1, 1);
            C.status("far beyond", LimitsTest::ship, (x, n) -> x.lines(v, n), Integer.MAX_VALUE, 1);
            C.sentence("no such LINE");
            C.limits("lies", LimitsTest::ship, 0, line, (x, n) -> x.lies(v, n, 0));
            C.limits("unfair", LimitsTest::ship, 0, line, (x, n) -> x.unfair(v, n));
            C.limits("strain", LimitsTest::ship, 0, line, (x, n) -> x.strain(v, n));
            C.sentence("no such PLACE");
            C.limits("lies", LimitsTest::ship, 0, places[v] - 1, (x, n) -> x.lies(v, line, n));
        }
        C.sentence("VIEW 0 (stations), VIEW 1 (waters), VIEW 2 (slants)");
        C.limits("lines", LimitsTest::ship, 0, 2, (x, n) -> x.lines(n, -1));
        C.limits("lines of a LINE", LimitsTest::ship, 0, 2, (x, n) -> x.lines(n, 0));
        C.limits("lies", LimitsTest::ship, 0, 2, (x, n) -> x.lies(n, 2, 0));
        C.limits("bend", LimitsTest::ship, 0, 2, (x, n) -> x.bend(n, 2, 1));
        C.limits("unfair", LimitsTest::ship, 0, 2, (x, n) -> x.unfair(n, 2));
        C.limits("strain", LimitsTest::ship, 0, 2, (x, n) -> x.strain(n, 2));
        C.limits("lath", LimitsTest::ship, 0, 2, (x, n) -> Checks.is(x.lath(n, 2, 3, 0)));
        C.sentence("BEND at a PLACE that has one on either side");
        C.limits("bend", LimitsTest::ship, 0, 2, (x, n) -> x.bend(0, n, 1));
        int[] due = {1, 6, 0, 0, 6, 1};
        for (int place = -1; place <= 4; place++) {
            C.status("PLACE", LimitsTest::ship, (x, n) -> x.bend(0, 0, n), place, due[place + 1]);
        }
        C.status("alone on its LINE", LimitsTest::ship, (x, n) -> x.bend(2, 0, n), 0, 6);
        C.status("two on their LINE", LimitsTest::ship, (x, n) -> x.bend(2, 1, n), 0, 6);
        C.status("two on their LINE", LimitsTest::ship, (x, n) -> x.bend(2, 1, n), 1, 6);
        C.status("three on their LINE", LimitsTest::ship, (x, n) -> x.bend(2, 2, n), 1, 0);
        C.sentence("Of the k-th of these, what 0, 1, 2 (1: k below 0, too; 6)");
        C.limits("k", LimitsTest::bumped, 0, 2, 1, 6, (x, n) -> x.where(n, 0));
        C.limits("what", LimitsTest::bumped, 0, 2, (x, n) -> x.where(2, n));
    }

    /** Three PLACES are UNFAIR: one of each STATION. */
    private static FairLines bumped() {
        return Checks.withBook("row 10 20 30 90;row 10 20 30 90;row 10 20 30 90;");
    }

    private static void laths() {
        C.sentence("1: a set with others, too; 6: fewer than two DUCKS");
        for (int ducks = -2; ducks <= 20; ducks++) {
            boolean isSet = ducks >= 0 && ducks < 16;
            int due = !isSet ? 1 : Integer.bitCount(ducks) < 2 ? 6 : 0;
            C.status("of four PLACES", LimitsTest::ship,
                    (x, n) -> Checks.is(x.lath(0, 1, n, 2)), ducks, due);
        }
        C.status("far below", LimitsTest::ship, (x, n) -> Checks.is(x.lath(0, 1, n, 2)),
                Integer.MIN_VALUE, 1);
        C.status("far beyond", LimitsTest::ship, (x, n) -> Checks.is(x.lath(0, 1, n, 2)),
                Integer.MAX_VALUE, 1);
        C.status("all of eight PLACES", () -> Checks.withBook("row 1 2 3;".repeat(8)),
                (x, n) -> Checks.is(x.lath(1, 0, n, 2)), 255, 0);
        C.status("a ninth", () -> Checks.withBook("row 1 2 3;".repeat(8)),
                (x, n) -> Checks.is(x.lath(1, 0, n, 2)), 257, 1);
        C.status("two on their LINE", LimitsTest::ship,
                (x, n) -> Checks.is(x.lath(2, 1, n, 1)), 3, 0);
        C.status("alone on its LINE", LimitsTest::ship,
                (x, n) -> Checks.is(x.lath(2, 0, n, 0)), 1, 6);
        C.status("alone on its LINE", LimitsTest::ship,
                (x, n) -> Checks.is(x.lath(2, 0, n, 0)), 2, 1);
        C.limits("place", LimitsTest::ship, 0, 3, (x, n) -> Checks.is(x.lath(0, 1, 3, n)));
        C.limits("line", LimitsTest::ship, 0, 2, (x, n) -> Checks.is(x.lath(0, n, 3, 0)));
    }

    private static FairLines ring() {
        FairLines x = Checks.withBook("row 0 0 0 0 0;row 0 0 45 0 0;row 0 0 30 0 0;row 0 0 45 0 0;"
                + "row 0 0 0 0 0;keep 1 2;keep 3 2;order stations waters;");
        x.rounds(9);
        return x;
    }

    private static FairLines leastOfTwo() {
        FairLines x = full();
        x.write(0, 1, 8);
        x.least(0, 2, 3);
        return x;
    }

    private static void roundsAndLeast() {
        C.sentence("ROUNDS, so many at most (1 to 60)");
        C.limits("rounds", LimitsTest::ship, 1, 60, (x, n) -> x.rounds(n));
        C.sentence("of a RING, what 0, 1, 2 (1)");
        C.limits("ended", LimitsTest::ring, 0, 2, (x, n) -> x.ended(n));
        C.sentence("1 to 5 unlike ones, by 1 to 3 hairs");
        C.limits("tray", LimitsTest::full, 0, 3, (x, n) -> x.least(n, 1, 1));
        C.limits("many", () -> withTray(0, 1, 2, 3, 8, 9), 1, 5, (x, n) -> x.least(0, n, 1));
        C.limits("by", LimitsTest::full, 1, 3, (x, n) -> x.least(0, 1, n));
        C.sentence("leastMove (1: below 0; 6)");
        C.limits("k", LimitsTest::leastOfTwo, 0, 1, 1, 6, (x, n) -> x.leastMove(n));
    }

    private static FairLines withTray(long... numbers) {
        FairLines x = ship();
        Checks.fill(x, 0, 3, numbers);
        return x;
    }

    private static void slips() {
        C.sentence("Of the k-th SLIP, what 0, 1 (1: k below 0, too; 6)");
        C.limits("k", LimitsTest::oneSlipped, 0, 0, 1, 6, (x, n) -> x.slip(n, 0));
        C.limits("what", LimitsTest::oneSlipped, 0, 1, (x, n) -> x.slip(0, n));
        FairLines plain = Checks.withBook("row 0 0 0;");
        C.limits("k of many", () -> Checks.withBook("row 0 0 0;"), 0, 80, 1, 6,
                (x, n) -> x.slip(n, 1));
        C.answered("27 of each POINT", plain, plain.slips(), 81);
    }

    private static FairLines oneSlipped() {
        String row = "row 100 100 100 100;";
        return Checks.withBook(row + row + "row 100 100 150 100;" + row + "eye 0;");
    }

    private static void ways() {
        C.sentence("what 0: ROUNDS done, 1: if it was over (1)");
        C.limits("ran", LimitsTest::hasRun, 0, 1, (x, n) -> x.ran(n));
    }

    private static FairLines hasRun() {
        FairLines x = new FairLines();
        x.run();
        return x;
    }

    private static void ribs() {
        C.sentence("so many trees (1 to 10)");
        C.limits("tray", LimitsTest::full, 0, 3, (x, n) -> x.ribs(n, 3));
        C.limits("many", () -> {
            FairLines x = Checks.withBook("row 1 2 3;");
            x.tray(0, 3, 60);
            return x;
        }, 1, 10, (x, n) -> x.ribs(0, n));
        C.sentence("fewer trees than STATIONS");
        int[] due = {1, 6, 6, 0, 0, 0, 0, 0, 0, 0, 0, 1};
        for (int many = 0; many < due.length; many++) {
            C.status("many", LimitsTest::full, (x, n) -> x.ribs(0, n), many, due[many]);
        }
        C.sentence("1: no such STATION then");
        C.limits("rib", () -> {
            FairLines x = full();
            x.ribs(0, 3);
            x.book(0);
            return x;
        }, 0, 2, (x, n) -> x.rib(n));
    }

    private static FairLines joined() {
        FairLines x = ship();
        x.planks(15);
        return x;
    }

    private static void shapes() {
        C.sentence("no such STRIP, STATION, WATER");
        C.limits("width's strip", LimitsTest::ship, 0, 2, (x, n) -> x.width(n, 0));
        C.limits("width's station", LimitsTest::ship, 0, 2, (x, n) -> x.width(0, n));
        C.limits("length", LimitsTest::ship, 0, 3, (x, n) -> x.length(n));
        C.limits("banana", LimitsTest::ship, 0, 2, (x, n) -> x.banana(n));
        C.sentence("a TREE (1 to 9,999)");
        C.limits("planks", () -> Checks.withBook("row 5 5 5;rise 1;"), 1, 9999,
                (x, n) -> x.planks(n));
        C.sentence("plank (1: below NONE; 6)");
        C.limits("plank", LimitsTest::joined, -1, 2, 1, 6, (x, n) -> x.plank(n));
    }

    private static void wet() {
        C.sentence("SQUARES, 1 to 20, what 0 to 5");
        C.limits("tray", LimitsTest::full, 0, 3, (x, n) -> x.wet(n, 1, 0));
        C.limits("many", LimitsTest::full, 1, 20, (x, n) -> x.wet(0, n, 0));
        C.limits("what", LimitsTest::full, 0, 5, (x, n) -> x.wet(0, 1, n));
    }

    private static void boats() {
        C.sentence("a seed (0 to 9,999), a HAND (0 to 20), BOAT k (0 to 39)");
        C.limits("boat's seed", LimitsTest::ship, 0, 9999, (x, n) -> x.boat(n, 0, 0, 0));
        C.limits("boat's hand", LimitsTest::ship, 0, 20, (x, n) -> x.boat(0, n, 0, 0));
        C.limits("boat", LimitsTest::ship, 0, 39, (x, n) -> x.boat(0, 0, n, 0));
        C.sentence("APART of n BOATS (2 to 40)");
        C.limits("apart's seed", LimitsTest::ship, 0, 9999, (x, n) -> x.apart(n, 0, 2, 0));
        C.limits("apart's hand", LimitsTest::ship, 0, 20, (x, n) -> x.apart(0, n, 2, 0));
        C.limits("apart", LimitsTest::ship, 2, 40, (x, n) -> x.apart(0, 0, n, 0));
        C.limits("what", LimitsTest::ship, 0, 1, (x, n) -> x.apart(0, 0, 2, n));
    }

    private static void built() {
        C.sentence("BUILT: of n BOATS (1 to 40), a slack (0 to 99), couples (1 to 20)");
        C.limits("seed", LimitsTest::measured, 0, 9999, (x, n) -> x.built(n, 0, 1, 0, 1, 0, 0));
        C.limits("hand", LimitsTest::measured, 0, 20, (x, n) -> x.built(0, n, 1, 0, 1, 0, 0));
        C.limits("n", LimitsTest::measured, 1, 40, (x, n) -> x.built(0, 0, n, 0, 1, 0, 0));
        C.limits("tray", LimitsTest::measured, 0, 3, (x, n) -> x.built(0, 0, 1, n, 1, 0, 0));
        C.limits("many", LimitsTest::measured, 1, 20, (x, n) -> x.built(0, 0, 1, 0, n, 0, 0));
        C.limits("slack", LimitsTest::measured, 0, 99, (x, n) -> x.built(0, 0, 1, 0, 1, n, 0));
        C.limits("what", LimitsTest::measured, 0, 1, (x, n) -> x.built(0, 0, 1, 0, 1, 0, n));
    }

    /** Every couple: POINT 0 was measured as it is. */
    private static FairLines measured() {
        FairLines x = full();
        for (int tray = 0; tray < 4; tray++) {
            for (int place = 1; place < 60; place += 2) {
                x.write(tray, place, 10);
            }
        }
        return x;
    }

    private static void afloat() {
        C.sentence("up to a WATER w (1 and more)");
        C.limits("volume", LimitsTest::ship, 1, 3, (x, n) -> Checks.is(x.volume(n)));
        C.limits("centre", LimitsTest::ship, 1, 3, (x, n) -> Checks.is(x.centre(n)));
        C.limits("carried", LimitsTest::ship, 1, 3, (x, n) -> Checks.is(x.carried(n, 0, 0)));
        C.sentence("if a POINT had a BREADTH (0 to 999)");
        C.limits("carried", LimitsTest::ship, 0, 999, (x, n) -> Checks.is(x.carried(1, 0, n)));
    }

    /** A number at a place of a TRAY that holds such as can be: from low to high, else STATUS 5. */
    private static void inTray(String what, long[] plain, int place, int low, int high,
            Checks.Call call) {
        long far = 1L << 32;
        long[] bad = {low - 1, high + 1, far + low, far + high, -far + low, Long.MIN_VALUE,
            Long.MAX_VALUE};
        for (long number : bad) {
            FairLines x = withTray(plain);
            x.write(0, place, number);
            C.refused(what + " " + number + " at " + place, x, call.on(x, 0), 5);
        }
        for (long number : new long[] {low, high}) {
            FairLines x = withTray(plain);
            x.write(0, place, number);
            x.told(-1);
            call.on(x, 0);
            C.due(what + " " + number + " at " + place, x.status(), 0);
        }
    }

    private static void inTrays() {
        C.sentence("5 a number in a TRAY that can't be: a tree's crook, 0 to 9,999");
        for (int place = 0; place < 10; place++) {
            inTray("ribs", new long[10], place, 0, 9999, (x, n) -> x.ribs(0, 10));
        }
        C.sentence("a true length (0 to 9,999), what it is now (0 to 19,999), 0 or 1");
        long[] squares = new long[60];
        for (int square = 0; square < 20; square++) {
            inTray("true length", squares, 3 * square, 0, 9999, (x, n) -> x.wet(0, 20, 0));
            inTray("now", squares, 3 * square + 1, 0, 19999, (x, n) -> x.wet(0, 20, 0));
            inTray("side", squares, 3 * square + 2, 0, 1, (x, n) -> x.wet(0, 20, 0));
        }
        C.sentence("5: no POINT, a BREADTH of none of 0 to 999");
        long[] couples = new long[40];
        for (int couple = 0; couple < 20; couple++) {
            inTray("POINT", couples, 2 * couple, 0, 3, (x, n) -> x.built(0, 0, 1, 0, 20, 0, 0));
            inTray("BREADTH", couples, 2 * couple + 1, 0, 999,
                    (x, n) -> x.built(0, 0, 1, 0, 20, 0, 0));
        }
        C.sentence("5: no POINT, one again, one KEPT");
        long[] many = {8, 9, 10, 11, 16};
        for (int place = 0; place < 5; place++) {
            inTray("POINT", many, place, 0, 3, (x, n) -> x.least(0, 5, 1));
            for (int again = 0; again < 5; again++) {
                FairLines x = withTray(many);
                x.write(0, place, many[again]);
                x.told(-1);
                x.least(0, 5, 1);
                C.due(many[again] + " at " + place, x.status(), again == place ? 0 : 5);
            }
            FairLines x = withTray(many);
            x.keep((int) many[place], true);
            C.refused(many[place] + " is KEPT", x, x.least(0, 5, 1), 5);
            x.keep((int) many[place], false);
            C.answered(many[place] + " is free", x, x.least(0, 5, 1), 0);
        }
        FairLines x = withTray(8, 9, 10, 11, 16, 8);
        C.answered("one again behind those asked for", x, x.least(0, 5, 1), 0);
    }
}
