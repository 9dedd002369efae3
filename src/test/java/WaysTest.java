/** Promises 31 to 37: WAYS, what was given, RIBS. */
public final class WaysTest {

    private static final Checks C = new Checks("WaysTest");
    private static final String PLAIN = "row 0 10 20;row 0 12 24;row 0 14 28;row 0 16 32;"
            + "row 0 18 36;eye 2;step 3;keep 0 0;";

    public static void main(String[] args) {
        taking();
        faults();
        firstFault();
        points();
        bends();
        loops();
        hundred();
        eases();
        given();
        crooks();
        ribs();
        ribsRefused();
        C.end();
    }

    private static void taking() {
        FairLines x = Checks.withBook(PLAIN);
        C.answered("way", x, Checks.way(x, " move 1 1 99;\nwhen;until 9;end;end;"), 3);
        C.due("fault", x.fault(0), 0);
        C.due("its place", x.fault(1), -1);
        C.due("the tape is empty then", x.feed(0, 0, 0, 0, 0), 20);
        C.refused("below 0", x, x.way(-1), 1);
        C.refused("more than the tape has", x, x.way(21), 1);
        C.refused("a WAY with a FAULT", x, x.way(1), 9);
        C.due("its fault", x.fault(0), 1);
        C.due("its place", x.fault(1), 0);
        C.due("the tape is empty then", x.feed(0, 0, 0, 0, 0), 20);
        x.run();
        C.due("the old WAY stays", x.point(9, 0), 99);
        x.way(0);
        x.move(9, 12);
        C.answered("an empty one", x, x.run(), 0);
        C.due("nothing moves", x.point(9, 0), 12);
        String long301 = "free 0 0;".repeat(30) + " ".repeat(31);
        Checks.feed(x, long301);
        C.refused("above 300", x, x.way(301), 1);
        C.answered("300 of it", x, x.way(300), 30);
        Checks.way(x, "move 1 1 50;");
        Checks.book(x, PLAIN);
        C.answered("a new BOOK leaves the WAY", x, x.run(), 1);
        C.due("it is done", x.point(9, 0), 50);
    }

    private static void faults() {
        C.wayFault("ease 1 ; Move", 1, 9);
        C.wayFault("move 1 1 1000;", 1, 9);
        C.wayFault("ease;", 2, 4);
        C.wayFault("ease 1 2;", 2, 7);
        C.wayFault("ease 1", 2, 6);
        C.wayFault("row 1 2 3;", 2, 0);
        C.wayFault("move 1 2;", 2, 8);
        C.wayFault("keep 1 2 3;", 2, 9);
        C.wayFault("free 1;", 2, 6);
        C.wayFault("bend up 2", 2, 5);
        C.wayFault("bend 2", 2, 5);
        C.wayFault("bend slants at", 2, 12);
        C.wayFault("bend slants 2 to 0 1;", 2, 14);
        C.wayFault("bend slants 2 0 1;", 2, 14);
        C.wayFault("bend slants 2 at;", 2, 16);
        C.wayFault("bend slants 2 at 1;", 2, 18);
        C.wayFault("bend slants 2 at 1", 2, 18);
        C.wayFault("bend slants 2 at 1 2", 2, 20);
        C.wayFault("bend slants 2 at 1 2 x;", 2, 21);
        C.wayFault("until;end;", 2, 5);
        C.wayFault("when 1;end;", 2, 5);
        C.wayFault("when;", 2, 5);
        C.wayFault("when;ease 1; ", 2, 13);
        C.wayFault("when;end", 2, 8);
        C.wayFault("end;", 2, 0);
        C.wayFault("when;end;end;", 2, 9);
        C.wayFault("ease 0;", 4, 5);
        C.wayFault("ease 61;", 4, 5);
        C.wayFault("move 8 0 0;", 4, 5);
        C.wayFault("keep 0 6;", 4, 7);
        C.wayFault("free 8 0;", 4, 5);
        C.wayFault("until 0;end;", 4, 6);
        C.wayFault("until 10;end;", 4, 6);
        C.wayFault("bend waters 13 at 0 1;", 4, 12);
        C.wayFault("bend waters 12 at 0 8;", 4, 20);
        C.wayFault("bend waters 12 at 8 0;", 4, 18);
        C.wayFault("bend waters 12 at 3 3;", 4, 20);
        C.wayFault("bend waters 0 at 0 1 2 3 4 5 6 7 0;", 4, 33);
        C.wayFault("when;when;when;until 1;", 5, 15);
        C.wayFault("until 1;until 1;until 1;when;", 5, 24);
        C.wayFault("free 0 0;".repeat(31), 6, 270);
    }

    private static void firstFault() {
        C.wayFault("when;when;when;until", 5, 15);
        C.wayFault("ease 1;".repeat(27) + "when;when;when;when;", 5, 204);
        C.wayFault("ease 1;".repeat(30) + "end;", 2, 210);
        C.wayFault("ease 1;".repeat(30) + "?", 1, 210);
        C.wayFault("ease 1;".repeat(30) + "up", 2, 210);
        C.wayFault("ease 1;".repeat(30) + "when", 6, 210);
        FairLines x = new FairLines();
        String full = "when;when;when;" + "ease 1;".repeat(27) + "end;end;end;";
        C.answered("end is no STEP", x, Checks.way(x, full), 30);
        C.answered("side by side", x, Checks.way(x, "when;when;end;when;when;end;end;end;"), 4);
        C.answered("all that can be", x, Checks.way(x, "ease 60;move 7 5 999;until 9;end;"
                + "bend slants 12 at 7 6 5 4 3 2 1 0;"), 4);
    }

    private static void points() {
        FairLines x = Checks.withBook(PLAIN);
        Checks.way(x, "move 0 0 5;move 1 0 6;keep 1 1;move 1 1 7;free 0 0;free 2 2;keep 1 1;"
                + "move 7 5 9;keep 7 5;free 7 5;move 0 3 1;");
        C.answered("STEPS", x, x.run(), 11);
        C.due("KEPT at first", x.point(0, 0), 0);
        C.due("free now", x.point(0, 2), 0);
        C.due("moved", x.point(8, 0), 6);
        C.due("KEPT by then", x.point(9, 0), 12);
        C.due("KEPT", x.point(9, 2), 1);
        C.due("one POINT differs", x.given(2), 1);
        C.answered("again", x, x.run(), 11);
        C.due("not KEPT any more", x.point(0, 0), 5);
    }

    private static void bends() {
        FairLines x = Checks.withBook("row 0 1 8 27;row 7 8 9 9;row 0 0 0 0;");
        Checks.way(x, "bend stations 0 at 3 1 0;");
        C.answered("bend", x, x.run(), 1);
        C.due("58 by 5", x.point(2, 0), 12);
        C.due("a DUCK stays", x.point(3, 0), 27);
        Checks.way(x, "bend waters 0 at 0 1;");
        x.run();
        C.due("beyond its DUCKS", x.point(16, 0), 14);
        Checks.way(x, "bend waters 1 at 0 2;");
        x.run();
        C.due("of two the greater", x.point(9, 0), 1);
        Checks.way(x, "bend stations 1 at 2 3;");
        x.keep(9, true);
        x.run();
        C.due("KEPT", x.point(9, 0), 1);
        C.due("not KEPT", x.point(8, 0), 9);
        FairLines y = Checks.withBook("row 0 600 0;row 0 0 0;row 999 0 0;row 5 7 0;");
        Checks.way(y, "bend waters 1 at 0 1;bend stations 0 at 0 1;bend waters 0 at 2 3;");
        y.run();
        C.due("not below 0", y.point(17, 0), 0);
        C.due("not above 999", y.point(2, 0), 999);
        C.due("not above 999", y.point(0, 0), 999);
        FairLines none = Checks.withBook("row 0 600 0;row 9 9 0;");
        Checks.way(none, "bend stations 2 at 0 1;bend stations 0 at 0 1 3;bend waters 3 at 0 1;"
                + "bend slants 4 at 0 1;bend slants 0 at 0 1;bend waters 0 at 0 2;");
        C.answered("all are done", none, none.run(), 6);
        C.due("nothing happens", none.given(2), 0);
        FairLines half = Checks.withBook("row 3 0 0;row 0 0 0;row 0 0 0;row 0 0 0;");
        Checks.way(half, "bend waters 0 at 1 2;");
        half.run();
        C.due("0 at all", half.point(0, 0), 0);
    }

    private static void loops() {
        FairLines x = Checks.withBook(PLAIN);
        Checks.way(x, "when;move 1 1 1;end;until 5;move 1 1 1;end;move 2 2 40;");
        C.answered("fair: both are come to", x, x.run(), 3);
        C.due("not done", x.point(9, 0), 12);
        C.due("done", x.point(18, 0), 40);
        C.answered("not fair: until is come to once", x, x.run(), 1 + 1 + 1 + 5 + 1);
        Checks.book(x, PLAIN);
        x.move(18, 40);
        Checks.way(x, "until 5;move 2 2 29;move 2 2 28;end;");
        C.answered("until it is fair", x, x.run(), 3);
        C.due("it is fair", x.unfairAll(), 0);
        x.move(18, 40);
        Checks.way(x, "until 3;until 2;keep 1 1;end;free 1 1;end;");
        C.answered("within one another", x, x.run(), 1 + 3 * (1 + 2 + 1));
        C.answered("not over", x, x.ran(1), 0);
        Checks.way(x, "until 9;until 9;until 9;end;end;end;keep 4 2;");
        C.answered("empty ones", x, x.run(), 1 + 9 * (1 + 9) + 1);
        C.due("what follows is done", x.point(34, 2), 1);
        Checks.way(x, "when;until 2;move 2 2 28;end;keep 0 1;end;keep 0 2;");
        C.answered("fair within", x, x.run(), 5);
        FairLines one = Checks.withBook("row 10 0 0;row 10 0 0;row 10 0 0;row 13 0 0;eye 0;");
        Checks.way(one, "when;move 3 0 0;end;until 2;keep 2 2;end;");
        C.answered("one PLACE is enough", one, one.run(), 1 + 1 + 1 + 2);
        C.due("moved to 0", one.point(24, 0), 0);
        C.due("what follows within is done", x.point(1, 2), 1);
        C.due("what follows is done", x.point(2, 2), 1);
    }

    private static void hundred() {
        FairLines x = Checks.withBook(PLAIN);
        C.refused("ran ahead of any", x, x.ran(0), 6);
        C.refused("what 2 ahead of any", x, x.ran(2), 1);
        x.move(18, 40);
        String nine = "keep 1 1;".repeat(9);
        Checks.way(x, "until 9;" + nine + "end;" + nine + nine);
        C.answered("82 and 18", x, x.run(), 100);
        C.answered("just so many", x, x.ran(1), 0);
        Checks.way(x, "until 9;" + nine + "end;" + nine + nine + "free 1 1;");
        C.answered("one more to be done", x, x.run(), 100);
        C.answered("over", x, x.ran(1), 1);
        C.due("it is not done", x.point(9, 2), 1);
        Checks.way(x, "until 9;" + nine + "end;" + nine + nine + "when;end;");
        C.answered("a when more", x, x.run(), 100);
        C.answered("over", x, x.ran(1), 1);
        Checks.way(x, "when;until 9;keep 1 1;" + "keep 1 1;".repeat(10) + "end;end;");
        C.answered("99 within, 2 ahead", x, x.run(), 100);
        C.answered("over", x, x.ran(1), 1);
        Checks.way(x, "until 9;keep 1 1;" + "keep 1 1;".repeat(10) + "end;");
        C.answered("99 within, 1 ahead, then ends alone", x, x.run(), 100);
        C.answered("not over", x, x.ran(1), 0);
        Checks.way(x, "until 1;until 9;" + nine.substring(9) + "until 2;end;end;end;");
        C.answered("fewer", x, x.run(), 1 + 1 + 9 * 9);
        C.answered("not over", x, x.ran(1), 0);
        C.refused("what -1", x, x.ran(-1), 1);
        C.refused("what 2", x, x.ran(2), 1);
    }

    private static void eases() {
        FairLines x = Checks.withBook(PLAIN);
        x.move(18, 40);
        Checks.way(x, "ease 2;ease 60;ease 60;");
        C.answered("run", x, x.run(), 3);
        C.answered("two, two and one that moves nothing, one", x, x.ran(0), 6);
        C.due("as it was", x.given(0), 0);
        C.refused("rounds() there was none", x, x.ended(0), 6);
        x.run();
        C.answered("of the latest", x, x.ran(0), 3);
    }

    private static void given() {
        FairLines x = Checks.withBook(PLAIN);
        x.move(1, 13);
        x.move(18, 20);
        C.answered("sum", x, x.given(0), 11);
        C.answered("greatest", x, x.given(1), 8);
        C.answered("POINTS", x, x.given(2), 2);
        C.refused("what 3", x, x.given(3), 1);
        C.refused("what -1", x, x.given(-1), 1);
        FairLines none = new FairLines();
        for (int what = 0; what < 3; what++) {
            C.answered("no POINTS", none, none.given(what), 0);
        }
        Checks.book(x, "row 1 2 3;");
        C.answered("by a new BOOK", x, x.given(0), 0);
    }

    private static void crooks() {
        FairLines x = Checks.withBook("row 1 5 2 9;row 0 1 2 3;");
        C.answered("-7 and 10", x, x.crook(0), 17);
        C.answered("straight", x, x.crook(1), 0);
        C.refused("no STATION", x, x.crook(2), 1);
        C.refused("below", x, x.crook(-1), 1);
        x.move(11, 0);
        C.answered("on the floor", x, x.crook(1), 3);
    }

    private static void ribs() {
        // CROOKS 10, 12, 0
        FairLines x = Checks.withBook("row 0 5 0;row 6 0 6;row 0 1 2;");
        C.refused("rib ahead of any", x, x.rib(9), 6);
        Checks.fill(x, 0, 2, 12, 13, 0, 11);
        C.answered("12 for STATION 1, 11 for 0", x, x.ribs(0, 4), 1);
        int[] due = {3, 0, 2};
        for (int station = 0; station < 3; station++) {
            C.answered("rib " + station, x, x.rib(station), due[station]);
        }
        C.refused("no STATION", x, x.rib(3), 1);
        C.refused("below", x, x.rib(-1), 1);
        C.answered("2 and 1", x, x.ribs(0, 3), 3);
        C.answered("of several the first", x, x.rib(0), 0);
        C.answered("the next", x, x.rib(1), 1);
        Checks.fill(x, 1, 1, 5, 5, 5, 5, 5, 5, 5, 5, 5, 5);
        C.answered("all alike", x, x.ribs(1, 10), 17);
        for (int station = 0; station < 3; station++) {
            C.answered("in order", x, x.rib(station), station);
        }
        Checks.book(x, "row 0 0 0;");
        C.answered("as it was then", x, x.rib(2), 2);
        C.refused("no STATION then", x, x.rib(3), 1);
        C.answered("one", x, x.ribs(0, 4), 0);
        C.answered("one", x, x.rib(0), 2);
        C.refused("no STATION then", x, x.rib(1), 1);
    }

    private static void ribsRefused() {
        FairLines x = Checks.withBook("row 0 5 0;row 6 0 6;row 0 1 2;");
        C.refused("no TRAY", x, x.ribs(4, 3), 1);
        C.refused("none", x, x.ribs(0, 0), 1);
        C.refused("eleven", x, x.ribs(0, 11), 1);
        C.refused("MISSING", x, x.ribs(0, 3), 2);
        Checks.fill(x, 0, 2, 1, 9999, 10000, -1);
        C.refused("too few numbers", x, x.ribs(0, 5), 3);
        C.refused("10000", x, x.ribs(0, 3), 5);
        C.refused("-1", x, x.ribs(0, 4), 5);
        C.refused("fewer than STATIONS", x, x.ribs(0, 2), 6);
        x.write(0, 1, -1);
        C.refused("5 ahead of 6", x, x.ribs(0, 2), 5);
        C.refused("there was none", x, x.rib(0), 6);
        FairLines none = new FairLines();
        Checks.fill(none, 0, 2, 1);
        C.refused("no STATION", none, none.ribs(0, 1), 6);
    }
}
