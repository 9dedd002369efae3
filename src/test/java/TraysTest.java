/** Promises 1 to 8: a new object, status, fractions, TRAYS. */
public final class TraysTest {

    private static final Checks C = new Checks("TraysTest");

    public static void main(String[] args) {
        newObject();
        statusAndFraction();
        laying();
        writing();
        cutting();
        pouring();
        C.end();
    }

    private static void newObject() {
        FairLines x = new FairLines();
        C.due("status", x.status(), 0);
        C.due("top", x.top(), 0);
        C.due("bottom", x.bottom(), 1);
        int[] told = {0, 0, 10, 10, 5, 1, 3};
        for (int what = 0; what < told.length; what++) {
            C.answered("told " + what, x, x.told(what), told[what]);
        }
        for (int k = 0; k < 3; k++) {
            C.answered("view " + k, x, x.view(k), k);
        }
        for (int tray = 0; tray < 4; tray++) {
            C.refused("read of a MISSING one", x, x.read(tray, 0), 2);
        }
        C.refused("point 0", x, x.point(0, 0), 1);
        C.refused("back", x, x.back(), 6);
        C.refused("book(1) of an empty tape", x, x.book(1), 1);
        C.due("fault 0", x.fault(0), -1);
        C.due("fault 1", x.fault(1), -1);
        C.answered("run of the empty WAY", x, x.run(), 0);
        C.answered("unfairAll", x, x.unfairAll(), 0);
        C.answered("given", x, x.given(0), 0);
        C.answered("slips", x, x.slips(), 0);
    }

    private static void statusAndFraction() {
        FairLines x = Checks.withBook("row 1 2 3;row 4 6 8;row 9 9 0;space 3;");
        x.told(9);
        C.due("status stays", x.status(), 1);
        C.due("status stays", x.status(), 1);
        x.top();
        x.bottom();
        x.fault(0);
        x.fault(7);
        x.feed(0, 0, 0, 0, 0);
        C.due("status of calls that have none", x.status(), 1);
        C.fraction("bevel up", x, x.bevel(8), 4, 3);
        C.fraction("bevel down", x, x.bevel(10), -1, 2);
        C.refused("bevel at an end", x, x.bevel(0), 6);
        C.due("top stays", x.top(), -1);
        C.due("bottom stays", x.bottom(), 2);
        C.fraction("nothing carried", x, x.carried(1, 0, 1), 0, 1);
    }

    private static void laying() {
        FairLines x = new FairLines();
        C.refused("tray -1", x, x.tray(-1, 0, 1), 1);
        C.refused("tray 4", x, x.tray(4, 0, 1), 1);
        C.refused("sort -1", x, x.tray(0, -1, 1), 1);
        C.refused("sort 4", x, x.tray(0, 4, 1), 1);
        C.refused("many -1", x, x.tray(0, 0, -1), 1);
        C.refused("many 61", x, x.tray(0, 0, 61), 1);
        C.refused("still MISSING", x, x.read(0, 0), 2);
        C.due("tray of none", x.tray(0, 3, 0), true);
        C.refused("no place in it", x, x.read(0, 0), 3);
        C.due("tray of sixty", x.tray(3, 3, 60), true);
        C.due("write", x.write(3, 59, 5), true);
        C.due("write", x.write(3, 0, 5), true);
        C.answered("read", x, x.read(3, 59), 5);
        C.due("again", x.tray(3, 3, 60), true);
        C.answered("0s again", x, x.read(3, 0), 0);
        C.answered("0s again", x, x.read(3, 59), 0);
        C.due("shorter", x.tray(3, 3, 2), true);
        C.refused("place 2", x, x.read(3, 2), 3);
    }

    private static void writing() {
        FairLines x = new FairLines();
        x.tray(1, 2, 3);
        C.refused("write to no TRAY", x, x.write(4, 0, 1), 1);
        C.refused("write to a MISSING one", x, x.write(0, 0, 1), 2);
        C.refused("write below", x, x.write(1, -1, 1), 3);
        C.refused("write beyond", x, x.write(1, 3, 1), 3);
        C.refused("read of no TRAY", x, x.read(-1, 0), 1);
        C.refused("read below", x, x.read(1, -1), 3);
        C.refused("read far beyond", x, x.read(1, Integer.MAX_VALUE), 3);
        C.refused("read far below", x, x.read(1, Integer.MIN_VALUE), 3);
        C.due("write -1", x.write(1, 2, -1), true);
        C.answered("-1 is no NONE", x, x.read(1, 2), -1);
    }

    private static void cutting() {
        FairLines x = new FairLines();
        long big = 0x1234_5678_9abc_def0L;
        long[] due = {(byte) 0xf0, (short) 0xdef0, 0x9abcdef0, big};
        for (int sort = 0; sort < 4; sort++) {
            x.tray(0, sort, 1);
            x.write(0, 0, big);
            C.answered("cut to sort " + sort, x, x.read(0, 0), due[sort]);
            x.write(0, 0, -1);
            C.answered("-1 of sort " + sort, x, x.read(0, 0), -1);
            x.write(0, 0, 127);
            C.answered("127 of sort " + sort, x, x.read(0, 0), 127);
        }
        x.tray(0, 0, 1);
        x.write(0, 0, 128);
        C.answered("128 of 8 bits", x, x.read(0, 0), -128);
    }

    private static void pouring() {
        FairLines x = new FairLines();
        Checks.fill(x, 0, 1, 1, 2, 3, 4, 5);
        Checks.fill(x, 1, 1, 9, 9, 9);
        Checks.fill(x, 2, 2, 7, 7);
        C.refused("from no TRAY", x, x.pour(4, 0, 1, 0, 1), 1);
        C.refused("to no TRAY", x, x.pour(0, 0, -1, 0, 1), 1);
        C.refused("place below 0", x, x.pour(0, -1, 1, 0, 1), 1);
        C.refused("at below 0", x, x.pour(0, 0, 1, -1, 1), 1);
        C.refused("many below 0, of a MISSING one", x, x.pour(3, 0, 1, 0, -1), 1);
        C.refused("from a MISSING one", x, x.pour(3, 0, 1, 0, 1), 2);
        C.refused("to a MISSING one", x, x.pour(0, 9, 3, 0, 1), 2);
        C.refused("unlike sorts come ahead of 3", x, x.pour(0, 9, 2, 9, 9), 8);
        C.refused("too few in the one", x, x.pour(0, 4, 1, 0, 2), 3);
        C.refused("too few in the other", x, x.pour(0, 0, 1, 2, 2), 3);
        C.refused("far too many", x, x.pour(0, Integer.MAX_VALUE, 1, 0, Integer.MAX_VALUE), 3);
        C.due("nothing came", x.read(1, 0), 9);
        C.due("none at the end", x.pour(0, 5, 1, 3, 0), true);
        C.due("pour", x.pour(0, 1, 1, 1, 2), true);
        C.due("place 0", x.read(1, 0), 9);
        C.due("place 1", x.read(1, 1), 2);
        C.due("place 2", x.read(1, 2), 3);
        C.due("upwards over itself", x.pour(0, 0, 0, 1, 4), true);
        long[] due = {1, 1, 2, 3, 4};
        for (int place = 0; place < 5; place++) {
            C.due("as they were " + place, x.read(0, place), due[place]);
        }
        C.due("downwards over itself", x.pour(0, 2, 0, 0, 3), true);
        long[] then = {2, 3, 4, 3, 4};
        for (int place = 0; place < 5; place++) {
            C.due("as they were, down " + place, x.read(0, place), then[place]);
        }
    }
}
