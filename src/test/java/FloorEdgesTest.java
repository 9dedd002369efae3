import java.util.ArrayList;
import java.util.List;

/** Part 2 and TRAYS: where a sentence on the floor just holds, and where it just does not. */
public final class FloorEdgesTest {

    private static final Checks C = new Checks("FloorEdgesTest");

    public static void main(String[] args) {
        cutToItsSort();
        oneTrayAlone();
        pouredAsTheyWere();
        slantsOfAllShapes();
        eye();
        whichPlaces();
        bumps();
        leastAndSlipsOfBumps();
        leastBySlants();
        slipsBySlants();
        lesserBook();
        twoOnEitherSide();
        step();
        wishAtTheEnds();
        sixtyRounds();
        ringOfOnePoint();
        ringOfGreatMoves();
        leastReach();
        leastOfFive();
        slipFigures();
        C.end();
    }

    private static void cutToItsSort() {
        C.sentence("A number comes to a place of a TRAY, cut to its sort");
        for (int sort = 0; sort < 3; sort++) {
            long most = (1L << (8 << sort) - 1) - 1;
            long least = -most - 1;
            long[][] cut = {{most, most}, {most + 1, least}, {least, least}, {least - 1, most},
                {-1, -1}, {2 * most + 1, -1}, {2 * most + 2, 0}, {2 * least - 1, -1}, {0, 0},
                {Long.MAX_VALUE, -1}, {Long.MIN_VALUE, 0}};
            cut(sort, cut);
        }
        cut(3, new long[][] {{Long.MAX_VALUE, Long.MAX_VALUE}, {Long.MIN_VALUE, Long.MIN_VALUE},
            {-1, -1}, {1L << 32, 1L << 32}});
    }

    private static void cut(int sort, long[][] pairs) {
        FairLines x = new FairLines();
        x.tray(1, sort, 1);
        for (long[] pair : pairs) {
            C.answered("write", x, Checks.is(x.write(1, 0, pair[0])), 1);
            x.read(1, 1);
            C.answered("sort " + sort + ": " + pair[0], x, x.read(1, 0), pair[1]);
        }
    }

    private static void oneTrayAlone() {
        C.sentence("A TRAY is a row of so many 0s");
        for (int tray = 0; tray < 4; tray++) {
            for (int many : new int[] {0, 1, 59, 60}) {
                FairLines x = new FairLines();
                for (int other = 0; other < 4; other++) {
                    x.tray(other, 2, 60);
                    for (int place = 0; place < 60; place++) {
                        x.write(other, place, 100 * other + place + 1);
                    }
                }
                x.tray(tray, 3, many);
                for (int other = 0; other < 4; other++) {
                    for (int place = 0; place < 60; place++) {
                        boolean is = other != tray || place < many;
                        long due = other == tray ? 0 : 100 * other + place + 1;
                        C.due("read", x.read(other, place), is ? due : -1);
                        C.due("read's status()", x.status(), is ? 0 : 3);
                    }
                }
            }
        }
    }

    private static void pouredAsTheyWere() {
        C.sentence("come to another one's (or its own) place on, as they were");
        int[][] pours = {{0, 1, 59}, {1, 0, 59}, {0, 30, 30}, {30, 0, 30}, {0, 0, 60}, {5, 9, 20},
            {9, 5, 20}, {59, 0, 1}, {0, 59, 1}, {60, 60, 0}, {0, 60, 0}};
        for (int[] one : pours) {
            for (int to = 0; to < 2; to++) {
                FairLines x = new FairLines();
                x.tray(0, 1, 60);
                x.tray(1, 1, 60);
                for (int place = 0; place < 60; place++) {
                    x.write(0, place, 100 + place);
                }
                C.answered("pour", x, Checks.is(x.pour(0, one[0], to, one[1], one[2])), 1);
                for (int place = 0; place < 60; place++) {
                    boolean came = place >= one[1] && place < one[1] + one[2];
                    int stayed = to == 0 ? 100 + place : 0;
                    C.due("place " + place + " of " + to, x.read(to, place),
                            came ? 100 + place - one[1] + one[0] : stayed);
                }
                C.due("where it came from", x.read(1 - to, 0), to == 0 ? 0 : 100);
            }
        }
    }

    private static void slantsOfAllShapes() {
        C.sentence("LINE j (0 to one less than STATIONS and WATERS together, less 1 more): POINTS "
                + "s, w with w less s being j less the last STATION's number, as s rises");
        for (int stations = 1; stations <= 8; stations++) {
            for (int waters = 3; waters <= 6; waters++) {
                FairLines x = Checks.withBook(Checks.flat(stations, waters, 5));
                C.answered("STATIONS", x, x.lines(0, -1), stations);
                C.answered("WATERS", x, x.lines(1, -1), waters);
                C.answered("slants", x, x.lines(2, -1), stations + waters - 1);
                C.refused("one more", x, x.lines(2, stations + waters - 1), 1);
                for (int line = 0; line < stations + waters - 1; line++) {
                    slant(x, stations, waters, line);
                }
            }
        }
    }

    private static void slant(FairLines x, int stations, int waters, int line) {
        int places = 0;
        for (int s = 0; s < stations; s++) {
            int w = s + line - (stations - 1);
            if (w >= 0 && w < waters) {
                C.answered("slant " + line, x, x.lies(2, line, places), 8 * s + w);
                places++;
            }
        }
        C.answered("PLACES of slant " + line, x, x.lines(2, line), places);
        C.refused("behind the last", x, x.lies(2, line, places), 1);
    }

    private static void eye() {
        C.sentence("UNFAIR, if its BEND and that of the PLACE ahead of it differ by more than EYE");
        int[][] due = {{5, 5, 0}, {5, 6, 1}, {0, 0, 0}, {0, 1, 1}, {998, 998, 0}, {998, 999, 1},
            {999, 999, 0}};
        for (int[] one : due) {
            FairLines up = Checks.withBook("row 0 0 0 " + one[1] + ";eye " + one[0] + ";");
            C.answered("by " + one[1], up, up.unfair(0, 0), one[2]);
            C.answered("by " + one[1], up, up.unfairAll(), one[2]);
            FairLines down = Checks.withBook("row " + one[1] + " 0 0 0;eye " + one[0] + ";");
            C.answered("by -" + one[1], down, down.unfair(0, 0), one[2]);
            C.answered("by -" + one[1], down, down.unfairAll(), one[2]);
        }
        FairLines most = Checks.withBook("row 0 333 0 0;eye 999;");
        C.answered("999", most, most.unfairAll(), 0);
        most.move(1, 334);
        C.answered("1002", most, most.unfairAll(), 1);
        C.sentence("EYE 5 without");
        FairLines without = Checks.withBook("row 0 0 0 5;");
        C.answered("5", without, without.unfairAll(), 0);
        without.move(3, 6);
        C.answered("6", without, without.unfairAll(), 1);
    }

    private static void whichPlaces() {
        C.sentence("A PLACE (2 and more, with one behind it)");
        FairLines three = Checks.withBook("row 0 999 0;row 999 0 999;row 0 999 0;eye 0;");
        C.answered("three PLACES", three, three.unfairAll(), 0);
        FairLines four = Checks.withBook("row 0 999 0 999;eye 0;");
        C.answered("four PLACES", four, four.unfairAll(), 1);
        C.answered("PLACE 2", four, four.where(0, 2), 2);
        // BENDS are 0 up to a PLACE and 9 from there on, so it alone is UNFAIR.
        int[][] stations = {{0, 0, 0, 9, 27, 54}, {0, 0, 0, 0, 9, 27}, {0, 0, 0, 0, 0, 9}};
        for (int i = 0; i < 3; i++) {
            StringBuilder row = new StringBuilder("row");
            for (int breadth : stations[i]) {
                row.append(' ').append(breadth);
            }
            FairLines x = Checks.withBook(row + ";");
            alone(x, 0, 2 + i);
        }
        for (int place = 2; place <= 6; place++) {
            int[] breadths = new int[8];
            for (int s = 2; s < 8; s++) {
                int bend = s - 1 >= place ? 9 : 0;
                breadths[s] = bend + 2 * breadths[s - 1] - breadths[s - 2];
            }
            alone(Checks.water("", breadths), 1, place);
        }
    }

    private static void alone(FairLines x, int view, int place) {
        C.answered("one alone", x, x.unfairAll(), 1);
        C.answered("one of its LINE", x, x.unfair(view, 0), 1);
        C.answered("its VIEW", x, x.where(0, 0), view);
        C.answered("its LINE", x, x.where(0, 1), 0);
        C.answered("its PLACE", x, x.where(0, 2), place);
        C.refused("no second", x, x.where(1, 0), 6);
    }

    /** VIEW, LINE, PLACE of all that is UNFAIR, if one POINT of a flat floor is off. */
    private static List<int[]> seenFrom(FairLines x, int point) {
        List<int[]> seen = new ArrayList<>();
        for (int view = 0; view < 3; view++) {
            for (int line = 0; line < x.lines(view, -1); line++) {
                int places = x.lines(view, line);
                for (int place = 2; place <= places - 2; place++) {
                    boolean bears = false;
                    for (int other = place - 2; other <= place + 1; other++) {
                        bears |= x.lies(view, line, other) == point;
                    }
                    if (bears) {
                        seen.add(new int[] {view, line, place});
                    }
                }
            }
        }
        return seen;
    }

    private static void bumps() {
        C.sentence("How many PLACES of all LINES are UNFAIR; by VIEWS, LINES, PLACES");
        int[][] shapes = {{8, 6}, {5, 5}, {3, 6}, {8, 3}, {4, 4}, {6, 4}};
        for (int[] shape : shapes) {
            for (int s = 0; s < shape[0]; s++) {
                for (int w = 0; w < shape[1]; w++) {
                    FairLines x = Checks.withBook(Checks.flat(shape[0], shape[1], 100) + "eye 0;");
                    List<int[]> seen = seenFrom(x, 8 * s + w);
                    x.move(8 * s + w, 101);
                    C.answered("off at " + s + ", " + w, x, x.unfairAll(), seen.size());
                    for (int k = 0; k < seen.size(); k++) {
                        for (int what = 0; what < 3; what++) {
                            C.answered("where " + k, x, x.where(k, what), seen.get(k)[what]);
                        }
                    }
                    C.refused("one more", x, x.where(seen.size(), 0), 6);
                }
            }
        }
    }

    private static void leastAndSlipsOfBumps() {
        int[][] shapes = {{8, 6}, {5, 5}, {4, 4}, {6, 5}};
        for (int[] shape : shapes) {
            String text = Checks.flat(shape[0], shape[1], 100) + "eye 0;";
            for (int s = 0; s < shape[0]; s++) {
                for (int w = 0; w < shape[1]; w++) {
                    FairLines x = Checks.withBook(text);
                    leastOfOne(x, 8 * s + w, shape);
                }
            }
        }
    }

    private static void leastOfOne(FairLines x, int point, int[] shape) {
        C.sentence("LEAST: the moves after which no PLACE of all LINES is UNFAIR");
        int other = (point / 8 + 1) % shape[0] * 8 + (point % 8 + 2) % shape[1];
        Checks.fill(x, 0, 0, point, other);
        C.answered("fair already", x, x.least(0, 2, 3), 0);
        x.move(point, 102);
        C.refused("2 is too much for 1", x, x.least(0, 2, 1), 6);
        C.answered("2", x, x.least(0, 2, 2), 2);
        C.answered("of this one", x, x.leastMove(0), -2);
        C.answered("not of the other", x, x.leastMove(1), 0);
        C.sentence("SLIPS: so that with v there (all else as it is) no PLACE is UNFAIR");
        C.answered("by its last figure", x, x.slips(), 1);
        C.answered("its POINT", x, x.slip(0, 0), point);
        C.answered("its BREADTH", x, x.slip(0, 1), 100);
        x.move(point, 112);
        C.answered("two figures", x, x.slips(), 0);
        x.move(point, 10);
        C.answered("the first two changed about", x, x.slips(), 1);
        C.answered("its POINT", x, x.slip(0, 0), point);
        x.keep(point, true);
        C.answered("KEPT", x, x.slips(), 0);
    }

    /**
     * BREADTHS are s and w multiplied with one another and with their sum: BENDS are alike all
     * along STATIONS and WATERS, and differ by 12 from PLACE to PLACE along slants.
     */
    private static FairLines twisted(int stations, int waters, int eye) {
        StringBuilder text = new StringBuilder();
        for (int s = 0; s < stations; s++) {
            text.append("row");
            for (int w = 0; w < waters; w++) {
                text.append(' ').append(s * w * (s + w));
            }
            text.append(';');
        }
        return Checks.withBook(text + "eye " + eye + ";");
    }

    private static void leastBySlants() {
        C.sentence("LEAST: the moves after which no PLACE of all LINES is UNFAIR");
        int[][] shapes = {{8, 6}, {5, 5}, {4, 6}, {7, 4}};
        for (int[] shape : shapes) {
            for (int s = 1; s < shape[0]; s++) {
                for (int w = 1; w < shape[1]; w++) {
                    for (int off = -1; off <= 1; off += 2) {
                        FairLines x = twisted(shape[0], shape[1], 12);
                        C.answered("fair by 12", x, x.unfairAll(), 0);
                        x.move(8 * s + w, s * w * (s + w) + off);
                        int due = x.unfairAll() == 0 ? 0 : 1;
                        C.due("slants alone", x.unfair(0, s) + x.unfair(1, w), 0);
                        Checks.fill(x, 0, 0, 8 * s + w);
                        C.answered("off at " + s + ", " + w, x, x.least(0, 1, 1), due);
                        C.answered("its move", x, x.leastMove(0), -due * off);
                    }
                }
            }
        }
        FairLines less = twisted(8, 6, 11);
        C.answered("not fair by 11", less, less.unfairAll(), 3 + 3 + 3 + 2 + 2 + 1 + 1);
    }

    private static void slipsBySlants() {
        C.sentence("SLIPS: so that with v there (all else as it is) no PLACE is UNFAIR");
        for (int number = 0; number < 48; number++) {
            int point = number / 6 * 8 + number % 6;
            FairLines x = twisted(8, 6, 16);
            int now = x.point(point, 0);
            List<Integer> due = new ArrayList<>();
            for (int v = 0; v <= 999; v++) {
                if (isSlip(String.format("%03d", now), String.format("%03d", v))) {
                    x.move(point, v);
                    if (x.unfairAll() == 0) {
                        due.add(v);
                    }
                }
            }
            x = twisted(8, 6, 16);
            int first = 0;
            while (x.slip(first, 0) != -1 && x.slip(first, 0) < point) {
                first++;
            }
            for (int k = 0; k < due.size(); k++) {
                C.answered("POINT " + point, x, x.slip(first + k, 0), point);
                C.answered("POINT " + point, x, x.slip(first + k, 1), due.get(k));
            }
            C.due("no more", x.slip(first + due.size(), 0) != point, true);
        }
    }

    /** What stood where the new BOOK has no POINT bears on nothing any more. */
    private static void lesserBook() {
        C.sentence("A BOOK that is taken is there in place of that ahead");
        String uneven = "row 0 999 0 999 0 999;row 999 0 999 0 999 0;";
        int[][] shapes = {{1, 3}, {2, 6}, {3, 4}, {4, 4}, {5, 5}, {7, 6}, {8, 5}, {0, 0}};
        for (int[] shape : shapes) {
            FairLines x = Checks.withBook(uneven.repeat(4) + "keep 7 5;keep 4 2;");
            x.rounds(1);
            x.mark();
            Checks.book(x, Checks.flat(shape[0], shape[1], 50) + "eye 0;step 99;");
            FairLines plain = Checks.withBook(Checks.flat(shape[0], shape[1], 50) + "eye 0;step 99;");
            C.answered("nothing is UNFAIR", x, x.unfairAll(), 0);
            C.refused("nothing is UNFAIR", x, x.where(0, 0), 6);
            C.answered("nothing moves", x, x.rounds(60), 1);
            C.answered("REST", x, x.ended(0), 1);
            C.answered("SLIPS", x, x.slips(), plain.slips());
            for (int what = 0; what < 3; what++) {
                C.answered("nothing differs from the BOOK", x, x.given(what), 0);
            }
            C.due("PLANKS", x.planks(99), plain.planks(99));
            C.due("WASTE", x.plank(-1), plain.plank(-1));
            C.due("APART", x.apart(5, 9, 40, 0), plain.apart(5, 9, 40, 0));
            C.due("VOLUME", x.volume(2), plain.volume(2));
            C.due("its top", x.top(), plain.top());
            C.answered("back", x, x.back(), 0);
            C.due("KEPT again", x.point(61, 2) + x.point(34, 2), 2);
        }
        C.sentence("GIVEN: by how much BREADTHS on the floor differ from the BOOK's");
        for (int number = 0; number < 48; number++) {
            int point = number / 6 * 8 + number % 6;
            FairLines x = Checks.withBook(Checks.flat(8, 6, 500));
            x.move(point, number % 2 == 0 ? 0 : 999);
            int due = number % 2 == 0 ? 500 : 499;
            C.answered("the sum", x, x.given(0), due);
            C.answered("the greatest", x, x.given(1), due);
            C.answered("how many", x, x.given(2), 1);
        }
    }

    private static void twoOnEitherSide() {
        C.sentence("LINE by LINE, PLACE by PLACE: each with two on either side");
        int[][] shapes = {{8, 6}, {5, 5}, {4, 4}, {4, 5}, {5, 4}, {8, 3}, {1, 6}, {3, 3}};
        String[] names = {"stations", "waters", "slants"};
        for (int[] shape : shapes) {
            for (int view = 0; view < 3; view++) {
                StringBuilder text = new StringBuilder();
                for (int s = 0; s < shape[0]; s++) {
                    text.append("row");
                    for (int w = 0; w < shape[1]; w++) {
                        // Up and down along each LINE of the VIEW, so all that can move does.
                        text.append((view == 0 ? w : s) % 2 == 0 ? " 200" : " 700");
                    }
                    text.append(';');
                }
                FairLines x = Checks.withBook(text + "order " + names[view] + ";");
                x.rounds(1);
                for (int line = 0; line < x.lines(view, -1); line++) {
                    int places = x.lines(view, line);
                    for (int place = 0; place < places; place++) {
                        int point = x.lies(view, line, place);
                        boolean moves = place >= 2 && place <= places - 3;
                        C.due(names[view] + " move " + point,
                                x.point(point, 0) != x.point(point, 1), moves);
                    }
                }
            }
        }
    }

    private static void step() {
        C.sentence("it moves towards that by STEP at most");
        int[][] due = {{1, 9}, {9, 1}, {10, 0}, {11, 0}, {99, 0}};
        for (int[] one : due) {
            FairLines down = Checks.water("step " + one[0] + ";", 0, 0, 10, 0, 0);
            down.rounds(1);
            C.due("down by " + one[0], down.point(16, 0), one[1]);
            FairLines up = Checks.water("step " + one[0] + ";", 10, 10, 0, 10, 10);
            up.rounds(1);
            C.due("up by " + one[0], up.point(16, 0), 10 - one[1]);
        }
        C.sentence("STEP 1 without");
        FairLines without = Checks.water("", 0, 0, 10, 0, 0);
        without.rounds(1);
        C.due("down by 1", without.point(16, 0), 9);
        C.sentence("that is not KEPT");
        FairLines kept = Checks.water("keep 2 0;", 0, 0, 10, 0, 0);
        C.answered("nothing moves", kept, kept.rounds(60), 1);
        kept.keep(16, false);
        C.answered("it moves", kept, kept.rounds(60), 11);
    }

    private static void wishAtTheEnds() {
        C.sentence("all together and 3, by 6, rounded down");
        // 4 times 4 less what stands next but one, and 3: 17, 18, 12, 11.
        int[][] due = {{2, 2}, {1, 3}, {7, 2}, {8, 1}, {13, 1}, {14, 0}, {19, 0}};
        for (int[] one : due) {
            FairLines x = Checks.water("step 99;", one[0], 4, 50, 0, 0);
            x.rounds(1);
            C.due("16 less " + one[0], x.point(16, 0), one[1]);
        }
        C.sentence("and stays from 0 to 999");
        int[][] high = {{999, 999}, {998, 999}, {997, 999}, {990, 999}};
        for (int[] one : high) {
            FairLines x = Checks.water("step 99;", one[0], 999, 950, 999, one[1]);
            x.rounds(1);
            C.due("999 at most", x.point(16, 0), 999);
        }
        FairLines below = Checks.water("step 99;", 999, 999, 950, 998, 999);
        below.rounds(1);
        C.due("(7988 less 1998 and 3) by 6", below.point(16, 0), 998);
        FairLines low = Checks.water("step 99;", 20, 4, 50, 0, 999);
        low.rounds(1);
        C.due("0 at least", low.point(16, 0), 0);
    }

    /** The middle of 5 by 5 goes down in its STATION and up to 80 in its WATER. */
    private static FairLines quarrel(int middle) {
        String side = "row 0 0 0 0 0;row 0 0 60 0 0;";
        return Checks.withBook(side + "row 0 0 " + middle + " 0 0;row 0 0 60 0 0;row 0 0 0 0 0;"
                + "keep 1 2;keep 3 2;order stations waters waters;");
    }

    private static void sixtyRounds() {
        C.sentence("until one of them moves nothing (that one counts): REST");
        FairLines rest = Checks.water("", 0, 0, 59, 0, 0);
        C.answered("59 and one that moves nothing", rest, rest.rounds(60), 60);
        C.answered("REST", rest, rest.ended(0), 1);
        FairLines none = Checks.water("", 0, 0, 60, 0, 0);
        C.answered("all of them move", none, none.rounds(60), 60);
        C.answered("neither", none, none.ended(0), 0);
        C.refused("no RING", none, none.ended(1), 6);
        C.answered("one more", none, none.rounds(60), 1);
        C.answered("REST", none, none.ended(0), 1);
        C.refused("no RING", none, none.ended(2), 6);
        FairLines fewer = Checks.water("", 0, 0, 59, 0, 0);
        C.answered("so many", fewer, fewer.rounds(59), 59);
        C.answered("neither", fewer, fewer.ended(0), 0);
        C.sentence("all POINTS are as they were ahead of some ROUND of these: a RING");
        FairLines ring = quarrel(21);
        C.answered("up to 80, then round", ring, ring.rounds(60), 60);
        C.answered("a RING", ring, ring.ended(0), 2);
        C.answered("ahead of it", ring, ring.ended(1), 59);
        C.answered("in it", ring, ring.ended(2), 1);
        FairLines late = quarrel(20);
        C.answered("up to 80", late, late.rounds(60), 60);
        C.answered("neither", late, late.ended(0), 0);
        C.refused("no RING", late, late.ended(2), 6);
        C.due("80", late.point(18, 0), 80);
        C.answered("round", late, late.rounds(60), 1);
        C.answered("none ahead of it", late, late.ended(1), 0);
        C.answered("one in it", late, late.ended(2), 1);
        FairLines sooner = quarrel(21);
        C.answered("so many", sooner, sooner.rounds(59), 59);
        C.answered("neither", sooner, sooner.ended(0), 0);
    }

    private static void ringOfOnePoint() {
        C.sentence("all POINTS are as they were");
        for (int s = 0; s < 8; s++) {
            for (int w = 2; w < 4; w++) {
                String bumped = w == 2 ? "row 0 0 4 0 0 0;" : "row 0 0 0 4 0 0;";
                FairLines x = Checks.withBook(Checks.flat(s, 6, 0) + bumped + Checks.flat(7 - s, 6, 0)
                        + "step 1;order stations;");
                int rounds = x.rounds(60);
                C.due("one POINT that moves is no RING, at " + s + ", " + w, x.ended(0), 1);
                C.due("at REST at last", x.rounds(60), 1);
                C.due("more than one ROUND", rounds > 2, true);
            }
        }
        FairLines great = Checks.withBook("row 999 999 990 999 999;order stations;");
        C.answered("990 to 999", great, great.rounds(60), 10);
        C.answered("REST", great, great.ended(0), 1);
        FairLines half = Checks.withBook("row 512 512 500 512 512;order stations;");
        C.answered("500 to 512", half, half.rounds(60), 13);
        C.answered("REST", half, half.ended(0), 1);
    }

    private static void ringOfGreatMoves() {
        C.sentence("all POINTS are as they were");
        for (int water = 0; water < 6; water++) {
            for (int turns = 1; turns <= 4; turns *= 2) {
                String plain = "row 0 0 0 0 0 0;row 0 0 0 0 0 0;";
                FairLines x = Checks.withBook(plain + "row 0 0 0 0 0 0;" + plain + "step 64;order"
                        + " waters".repeat(turns) + ";");
                x.move(16 + water, 768);
                C.answered("down by 64, " + turns + " times a ROUND", x, x.rounds(60),
                        12 / turns + 1);
                C.answered("REST", x, x.ended(0), 1);
            }
        }
    }

    private static void leastReach() {
        C.sentence("may be moved by up to so many hairs (1 to 3) either way");
        for (int off = 1; off <= 4; off++) {
            for (int by = 1; by <= 3; by++) {
                for (int sign = -1; sign <= 1; sign += 2) {
                    FairLines x = Checks.water("eye 0;", 10, 10, 10, 10 + sign * off);
                    Checks.fill(x, 0, 0, 24);
                    if (off <= by) {
                        C.answered("off by " + off, x, x.least(0, 1, by), off);
                        C.answered("its move", x, x.leastMove(0), -sign * off);
                    } else {
                        C.refused("off by " + off, x, x.least(0, 1, by), 6);
                    }
                }
            }
        }
        C.sentence("(0 to 999)");
        // The fourth ought to be the first and 3 times the third less 3 times the second.
        int[][] due = {{3, 1, 0, 2, -2}, {2, 1, 0, 1, 99}, {999, 5, 5, 997, 2},
            {997, 0, 1, 998, 99}, {0, 7, 7, 3, -3}, {996, 0, 1, 996, 3}, {1, 1, 0, 0, 99}};
        for (int[] one : due) {
            FairLines x = Checks.water("eye 0;", one[0], one[1], one[2], one[3]);
            Checks.fill(x, 0, 0, 24);
            if (one[4] == 99) {
                C.refused("it would be outside", x, x.least(0, 1, 3), 6);
            } else {
                C.answered("it is inside", x, x.least(0, 1, 3), Math.abs(one[4]));
                C.answered("its move", x, x.leastMove(0), one[4]);
            }
        }
        C.sentence("of these the first by the TRAY's places, the lesser (below 0 first) ahead");
        // 13 less 1 is fair by an EYE of 2, and so is the third more 1.
        FairLines x = Checks.water("eye 2;", 10, 10, 10, 13);
        Checks.fill(x, 0, 0, 16, 24);
        C.answered("either one", x, x.least(0, 2, 3), 1);
        C.answered("0 is ahead of 1", x, x.leastMove(0), 0);
        C.answered("-1", x, x.leastMove(1), -1);
        Checks.fill(x, 0, 0, 24, 16);
        C.answered("either one", x, x.least(0, 2, 3), 1);
        C.answered("-1 is ahead of 0", x, x.leastMove(0), -1);
        C.answered("the second stays", x, x.leastMove(1), 0);
        FairLines both = Checks.water("eye 0;", 10, 11, 10, 10);
        Checks.fill(both, 0, 0, 8, 16);
        C.answered("either one", both, both.least(0, 2, 3), 1);
        C.answered("-1 is ahead of 0", both, both.leastMove(0), -1);
        C.answered("the second stays", both, both.leastMove(1), 0);
        Checks.fill(both, 0, 0, 16, 8);
        C.answered("either one", both, both.least(0, 2, 3), 1);
        C.answered("0 is ahead of 1", both, both.leastMove(0), 0);
        C.answered("-1", both, both.leastMove(1), -1);
    }

    /** Three that stay where they are let the other five of a LINE lie in one way only. */
    private static void leastOfFive() {
        C.sentence("1 to 5 unlike ones; the least sum of their sizes");
        FairLines x = Checks.water("eye 0;", 103, 100, 97, 103, 100, 97, 103, 100);
        Checks.fill(x, 0, 0, 48, 40, 0, 16, 24);
        C.refused("four of them", x, x.least(0, 4, 3), 6);
        C.refused("by 2", x, x.least(0, 5, 2), 6);
        C.answered("all five by 3", x, x.least(0, 5, 3), 15);
        int[] due = {-3, 3, -3, 3, -3};
        for (int k = 0; k < 5; k++) {
            C.answered("move " + k, x, x.leastMove(k), due[k]);
        }
        C.refused("no sixth", x, x.leastMove(5), 6);
    }

    private static void slipFigures() {
        C.sentence("differs in just one figure, or is that with two figures next to one another "
                + "changed about (which differ)");
        int[] all = {0, 1, 9, 10, 11, 90, 99, 100, 101, 110, 111, 121, 122, 123, 210, 212, 321, 909,
            990, 998, 999};
        for (int now : all) {
            List<Integer> due = new ArrayList<>();
            for (int v = 0; v <= 999; v++) {
                if (isSlip(String.format("%03d", now), String.format("%03d", v))) {
                    due.add(v);
                }
            }
            FairLines x = Checks.withBook("row " + now + " 5 5;keep 0 1;keep 0 2;");
            C.answered("of " + now, x, x.slips(), due.size());
            for (int k = 0; k < due.size(); k++) {
                C.answered("the POINT", x, x.slip(k, 0), 0);
                C.answered("of " + now, x, x.slip(k, 1), due.get(k));
            }
            C.refused("one more", x, x.slip(due.size(), 0), 6);
        }
    }

    private static boolean isSlip(String now, String then) {
        int unlike = 0;
        for (int i = 0; i < 3; i++) {
            unlike += now.charAt(i) == then.charAt(i) ? 0 : 1;
        }
        String front = "" + now.charAt(1) + now.charAt(0) + now.charAt(2);
        String back = "" + now.charAt(0) + now.charAt(2) + now.charAt(1);
        return unlike == 1 || unlike == 2 && (then.equals(front) || then.equals(back));
    }
}
