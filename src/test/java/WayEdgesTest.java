/** Part 3b: where a sentence on WAYS and MARKS just holds, and where it just does not. */
public final class WayEdgesTest {

    private static final Checks C = new Checks("WayEdgesTest");

    public static void main(String[] args) {
        bendsOfAWay();
        pointsOfAWay();
        hundredSteps();
        loops();
        marks();
        C.end();
    }

    private static int bent(String way, int point, String book) {
        FairLines x = Checks.withBook(book);
        C.answered("way " + way, x, Checks.way(x, way), 1);
        C.answered("run", x, x.run(), 1);
        return x.point(point, 0);
    }

    private static void bendsOfAWay() {
        C.sentence("to the nearest whole one (of two the greater), 0 to 999");
        C.due("a third", bent("bend stations 0 at 0 3;", 1, "row 0 9 9 1;"), 0);
        C.due("two thirds", bent("bend stations 0 at 0 3;", 2, "row 0 9 9 1;"), 1);
        C.due("a half", bent("bend stations 0 at 0 2;", 1, "row 0 9 1;"), 1);
        C.due("5 and a half", bent("bend stations 0 at 0 2;", 1, "row 9 9 2;"), 6);
        C.due("999", bent("bend stations 0 at 0 1;", 2, "row 997 998 9;"), 999);
        C.due("1000", bent("bend stations 0 at 0 1;", 2, "row 998 999 9;"), 999);
        C.due("0", bent("bend stations 0 at 0 1;", 2, "row 2 1 9;"), 0);
        C.due("-1", bent("bend stations 0 at 0 1;", 2, "row 1 0 9;"), 0);
        C.sentence("each PLACE without a DUCK that is not KEPT");
        C.due("KEPT", bent("bend stations 0 at 0 1;", 2, "row 2 1 9;keep 0 2;"), 9);
        C.due("with a DUCK", bent("bend stations 0 at 0 1 2;", 2, "row 2 1 9;"), 9);
        C.due("a KEPT DUCK", bent("bend stations 0 at 0 1;", 2, "row 9 8 1;keep 0 0;"), 7);
        C.sentence("nothing happens, if there is no such LINE, or a DUCK's PLACE is none");
        String book = "row 0 5 5;row 5 5 5;row 0 9 9;row 0 0 0;";
        C.due("the last STATION", bent("bend stations 3 at 0 1;", 26, "row 0 0 0;row 0 0 0;"
                + "row 0 0 0;row 3 2 9;"), 1);
        C.due("no STATION", bent("bend stations 4 at 0 1;", 1, book), 5);
        C.due("the last WATER", bent("bend waters 2 at 2 3;", 2, book), 27);
        C.due("no WATER", bent("bend waters 3 at 2 3;", 2, book), 5);
        C.due("a slant of two", bent("bend slants 1 at 0 1;", 16, book), 0);
        C.due("the middle slant", bent("bend slants 3 at 0 1;", 18, book), 10);
        C.due("no slant", bent("bend slants 6 at 0 1;", 2, book), 5);
        C.due("a DUCK at the last PLACE", bent("bend stations 0 at 0 2;", 1, book), 3);
        C.due("a DUCK behind it", bent("bend stations 0 at 0 3;", 1, book), 5);
        C.due("a DUCK behind it among others", bent("bend stations 0 at 0 2 3;", 1, book), 5);
        C.due("a DUCK at the last PLACE", bent("bend waters 0 at 0 3;", 8, book), 0);
        C.due("a DUCK behind it", bent("bend waters 0 at 0 4;", 8, book), 5);
        C.due("alone on its slant", bent("bend slants 0 at 0 1;", 24, book), 0);
    }

    private static void pointsOfAWay() {
        C.sentence("move s w v, keep, free s w: if it is there");
        for (int s = 0; s < 8; s++) {
            for (int w = 0; w < 6; w++) {
                boolean is = s < 3 && w < 4;
                FairLines x = Checks.withBook(Checks.flat(3, 4, 9));
                Checks.way(x, "move " + s + " " + w + " 999;keep " + s + " " + w + ";");
                C.answered("done", x, x.run(), 2);
                C.due("moved", x.given(2), is ? 1 : 0);
                C.due("by so much", x.given(1), is ? 990 : 0);
                C.due("moved", x.point(8 * s + w, 0), is ? 999 : -1);
                C.due("KEPT", x.point(8 * s + w, 2), is ? 1 : -1);
                Checks.book(x, Checks.flat(8, 6, 9));
                C.due("nothing is KEPT of what was none", x.point(8 * s + w, 2), 0);
            }
        }
        C.sentence("has BREADTH v, if it is there and not KEPT");
        FairLines x = Checks.withBook(Checks.flat(3, 4, 9));
        Checks.way(x, "keep 0 0;move 0 0 0;free 0 0;keep 0 1;keep 0 1;free 0 2;move 0 2 0;");
        C.answered("done", x, x.run(), 7);
        C.due("KEPT then", x.point(0, 0), 9);
        C.due("free now", x.point(0, 2), 0);
        C.due("KEPT twice is KEPT", x.point(1, 2), 1);
        C.due("to 0", x.point(2, 0), 0);
    }

    private static FairLines done(String way) {
        FairLines x = Checks.withBook("row 0 99 0 99 0;");
        Checks.way(x, way);
        x.run();
        return x;
    }

    private static void hundredSteps() {
        C.sentence("RAN: STEPS one by one, at most 100; then it is over");
        String nine = "keep 0 0;free 0 0;keep 0 0;free 0 0;keep 0 0;free 0 0;keep 0 0;free 0 0;"
                + "keep 0 0;";
        int[][] due = {{8, 99, 0}, {9, 100, 0}, {10, 100, 1}};
        for (int[] one : due) {
            // An until and 9 times 10 are 91.
            FairLines x = done("until 9;" + nine + "free 0 0;end;" + "keep 0 1;".repeat(one[0]));
            C.answered("how many", x, x.run(), one[1]);
            C.answered("over", x, x.ran(1), one[2]);
            C.answered("no ROUNDS", x, x.ran(0), 0);
        }
        FairLines last = done("until 9;" + nine + "free 0 0;end;" + "keep 0 1;".repeat(8)
                + "keep 0 2;");
        C.due("the hundredth is done", last.point(2, 2), 1);
        last = done("until 9;" + nine + "free 0 0;end;" + "keep 0 1;".repeat(9) + "keep 0 2;");
        C.due("one more is not", last.point(2, 2), 0);
        C.sentence("1 if it was over by 100 STEPS with one more to be done, else 0");
        String[] more = {"", "when;end;", "until 9;end;", "when;keep 0 2;end;", "ease 1;",
            "move 7 5 0;", "bend slants 12 at 0 1;"};
        for (String step : more) {
            FairLines x = done("until 9;" + nine + "free 0 0;end;" + "keep 0 1;".repeat(9) + step);
            C.answered("with " + step, x, x.ran(1), step.isEmpty() ? 0 : 1);
        }
        FairLines within = done("until 9;" + nine + "free 0 0;keep 0 0;end;");
        C.answered("an until and 9 times 11", within, within.ran(1), 0);
        within = done("when;until 9;" + nine + "free 0 0;keep 0 2;end;end;");
        C.answered("a when more", within, within.ran(1), 1);
        C.due("by the last one", within.point(2, 2), 1);
        within = done("until 9;when;" + nine + "free 0 0;end;end;");
        C.answered("the ends are none", within, within.run(), 100);
        C.answered("an until, 9 whens, 9 times 10", within, within.ran(1), 0);
        within = done("until 9;until 9;until 9;keep 0 0;free 0 0;end;end;end;");
        C.answered("of many hundred", within, within.run(), 100);
        C.answered("over", within, within.ran(1), 1);
        C.sentence("6: there was none");
        FairLines none = new FairLines();
        C.refused("ran", none, none.ran(0), 6);
        none.run();
        C.answered("ran", none, none.ran(0), 0);
        C.answered("ran", none, none.ran(1), 0);
    }

    private static void loops() {
        C.sentence("until n (1 to 9): at most n times, each time only if some PLACE is UNFAIR");
        for (int n = 1; n <= 9; n++) {
            FairLines x = Checks.withBook("row 0 0 0 9;eye 5;");
            Checks.way(x, "until " + n + ";keep 0 0;end;");
            C.answered("UNFAIR all along", x, x.run(), 1 + n);
            x.move(3, 5);
            C.answered("fair", x, x.run(), 1);
            x.move(3, 6);
            C.answered("just UNFAIR", x, x.run(), 1 + n);
            Checks.way(x, "until " + n + ";move 0 3 5;keep 0 0;end;");
            C.answered("fair by the first STEP", x, x.run(), 3);
        }
        C.sentence("when: they are done, if some PLACE is UNFAIR");
        FairLines x = Checks.withBook("row 0 0 0 6;eye 5;");
        Checks.way(x, "when;move 0 3 5;keep 0 0;when;keep 0 1;end;keep 0 2;end;");
        C.answered("the inner one is not", x, x.run(), 5);
        C.due("all of the outer one", x.point(0, 2) + x.point(2, 2), 2);
        C.due("none of the inner one", x.point(1, 2), 0);
        C.answered("fair", x, x.run(), 1);
        C.sentence("ease n: ROUNDS, at most n");
        FairLines ease = Checks.withBook("row 0 0 59 0 0;order stations;");
        Checks.way(ease, "ease 60;");
        ease.run();
        C.answered("59 and one that moves nothing", ease, ease.ran(0), 60);
        ease.run();
        C.answered("one that moves nothing", ease, ease.ran(0), 1);
        ease.move(2, 59);
        Checks.way(ease, "ease 1;ease 58;");
        ease.run();
        C.answered("so many", ease, ease.ran(0), 59);
        C.due("at 0", ease.point(2, 0), 0);
    }

    private static void marks() {
        C.sentence("MARKS, at most 3; all is taken back to the latest MARK, which is gone then");
        FairLines x = Checks.withBook("row 1 2 3;");
        C.refused("none", x, x.back(), 6);
        for (int many = 1; many <= 3; many++) {
            x.move(0, 100 * many);
            C.answered("mark", x, x.mark(), many);
        }
        x.move(0, 400);
        C.refused("a fourth", x, x.mark(), 4);
        C.due("nothing changes", x.point(0, 0), 400);
        for (int left = 2; left >= 0; left--) {
            C.answered("back", x, x.back(), left);
            C.due("as it was", x.point(0, 0), 100 * left + 100);
        }
        C.refused("none left", x, x.back(), 6);
        C.due("nothing changes", x.point(0, 0), 100);
        C.answered("one more", x, x.mark(), 1);
        x.move(0, 7);
        C.answered("to it", x, x.back(), 0);
        C.due("as it was", x.point(0, 0), 100);
    }
}
