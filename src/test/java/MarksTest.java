/** Promises 51 and 52: MARKS. */
public final class MarksTest {

    private static final Checks C = new Checks("MarksTest");

    public static void main(String[] args) {
        counting();
        takenBack();
        notTakenBack();
        C.end();
    }

    private static void counting() {
        FairLines x = new FairLines();
        C.refused("none", x, x.back(), 6);
        C.answered("one", x, x.mark(), 1);
        C.answered("two", x, x.mark(), 2);
        C.answered("three", x, x.mark(), 3);
        C.refused("four", x, x.mark(), 4);
        C.answered("back to two", x, x.back(), 2);
        C.answered("three again", x, x.mark(), 3);
        for (int left = 2; left >= 0; left--) {
            C.answered("back", x, x.back(), left);
        }
        C.refused("none", x, x.back(), 6);
    }

    private static void takenBack() {
        FairLines x = new FairLines();
        x.mark();
        Checks.book(x, "row 1 2 3;row 4 5 6;space 2;rise 3;eye 4;step 5;keep 0 1;order slants;");
        Checks.way(x, "move 1 1 77;");
        x.move(0, 9);
        x.keep(8, true);
        x.mark();
        Checks.book(x, "row 7 7 7 7;order waters waters;");
        Checks.way(x, "move 0 0 55;keep 0 3;");
        x.mark();
        x.run();
        C.due("done", x.point(0, 0), 55);
        C.due("done", x.point(3, 2), 1);
        Checks.way(x, "");
        C.answered("to the latest", x, x.back(), 2);
        C.due("the floor", x.point(0, 0), 7);
        C.due("KEPT", x.point(3, 2), 0);
        C.answered("the WAY", x, x.run(), 2);
        C.due("the floor by it", x.point(0, 0), 55);
        C.answered("to the next", x, x.back(), 1);
        int[] told = {2, 3, 2, 3, 4, 5, 1};
        for (int what = 0; what < told.length; what++) {
            C.due("told " + what, x.told(what), told[what]);
        }
        C.due("ORDER", x.view(0), 2);
        C.due("the floor", x.point(0, 0), 9);
        C.due("the BOOK", x.point(0, 1), 1);
        C.due("KEPT by the BOOK", x.point(1, 2), 1);
        C.due("KEPT by hand", x.point(8, 2), 1);
        C.answered("the WAY", x, x.run(), 1);
        C.due("the floor by it", x.point(9, 0), 77);
        C.answered("to the first", x, x.back(), 0);
        C.due("no STATIONS", x.told(0), 0);
        C.due("space", x.told(2), 10);
        C.answered("the empty WAY", x, x.run(), 0);
    }

    private static void notTakenBack() {
        FairLines x = Checks.withBook("row 0 5 0;row 6 0 6;row 0 1 2;");
        Checks.fill(x, 0, 1, 1, 2, 3);
        x.mark();
        x.write(0, 0, 9);
        x.tray(1, 0, 2);
        x.ribs(0, 3);
        int rib = x.rib(0);
        x.planks(100);
        int highest = x.plank(0);
        x.rounds(5);
        x.bevel(8);
        long top = x.top();
        Checks.way(x, "ease 0;");
        x.feed(1, 2, 3, 4, 5);
        x.run();
        C.answered("back", x, x.back(), 0);
        C.due("TRAYS stay", x.read(0, 0), 9);
        C.due("TRAYS stay", x.read(1, 0), 0);
        C.due("RIBS stay", x.rib(0), rib);
        C.due("PLANKS stay", x.plank(0), highest);
        C.due("ended stays", x.ended(0), 1);
        C.due("ran stays", x.ran(1), 0);
        C.due("the FRACTION stays", x.top(), top);
        C.due("the fault stays", x.fault(0), 4);
        C.due("the tape stays", x.feed(0, 0, 0, 0, 0), 40);
    }
}
