/** Promises 9 to 16: the tape, the BOOK, POINTS. */
public final class BookTest {

    private static final Checks C = new Checks("BookTest");

    public static void main(String[] args) {
        feeding();
        taking();
        settings();
        tokens();
        faults();
        firstFault();
        pointsAndMoves();
        keeping();
        C.end();
    }

    private static void feeding() {
        FairLines x = new FairLines();
        for (int many = 20; many <= 600; many += 20) {
            C.due("feed", x.feed(0, 0, 0, 0, 0), many);
        }
        C.due("one too many", x.feed(0, 0, 0, 0, 0), -1);
        C.due("status of feed", x.status(), 0);
        C.refused("more than the tape has", x, x.book(601), 1);
        C.refused("below 0", x, x.book(-1), 1);
        C.due("the tape stays", x.feed(0, 0, 0, 0, 0), -1);
        C.answered("an empty BOOK", x, x.book(0), 0);
        C.due("the tape is empty then", x.feed(0x726f7720, 0x31203220, 0x333b0000, 0, 0), 20);
        C.answered("the highest byte first", x, x.book(10), 1);
        C.due("POINT 1", x.point(1, 0), 2);
    }

    private static void taking() {
        FairLines x = new FairLines();
        C.answered("book", x, Checks.book(x, "row 1 2 3;row 4 5 6;keep 1 2;eye 9;"), 2);
        C.due("fault", x.fault(0), 0);
        C.due("its place", x.fault(1), -1);
        C.due("others", x.fault(2), -1);
        C.due("others below", x.fault(-1), -1);
        C.due("move", x.move(0, 50), true);
        C.refused("a BOOK with a FAULT", x, Checks.book(x, "row 7 8 9 x;"), 9);
        C.due("its fault", x.fault(0), 2);
        C.due("its fault's place", x.fault(1), 10);
        C.due("the tape is empty then", x.feed(0, 0, 0, 0, 0), 20);
        C.refused("too many bytes", x, x.book(21), 1);
        C.due("fault() tells of the one with STATUS 9", x.fault(0), 2);
        C.due("the old BOOK stays", x.told(0), 2);
        C.due("eye stays", x.told(4), 9);
        C.due("the floor stays", x.point(0, 0), 50);
        C.due("KEPT stays", x.point(10, 2), 1);
        x.book(0);
        C.due("an empty one takes its place", x.told(0), 0);
        C.due("no WATERS", x.told(1), 0);
        C.due("eye as without", x.told(4), 5);
        Checks.book(x, "row 7 8 9 10;row 11 12 13 14;");
        C.due("nothing is KEPT", x.point(10, 2), 0);
        C.due("the floor by the BOOK", x.point(0, 0), 7);
        C.due("WATERS", x.told(1), 4);
        x.move(0, 3);
        Checks.book(x, "row 7 8 9 10;");
        C.due("the floor anew", x.point(0, 0), 7);
    }

    private static void settings() {
        FairLines x = new FairLines();
        String text = "step 99;eye 0;order slants slants waters stations slants waters;"
                + "rise 999;space 1;row 000 010 999;";
        C.answered("book", x, Checks.book(x, text), 1);
        int[] told = {1, 3, 1, 999, 0, 99, 6};
        for (int what = 0; what < told.length; what++) {
            C.answered("told " + what, x, x.told(what), told[what]);
        }
        int[] order = {2, 2, 1, 0, 2, 1};
        for (int k = 0; k < order.length; k++) {
            C.answered("view " + k, x, x.view(k), order[k]);
        }
        C.refused("view 6", x, x.view(6), 6);
        C.refused("view -1", x, x.view(-1), 1);
        C.refused("view far", x, x.view(Integer.MAX_VALUE), 6);
        C.refused("told -1", x, x.told(-1), 1);
        C.refused("told 7", x, x.told(7), 1);
        C.due("010", x.point(1, 0), 10);
        C.due("999", x.point(2, 0), 999);
        C.answered("least", x, Checks.book(x, "space 999;rise 1;step 1;eye 999;order waters;"), 0);
        C.due("space", x.told(2), 999);
        C.due("eye", x.told(4), 999);
        C.due("one VIEW", x.told(6), 1);
        C.refused("view 1", x, x.view(1), 6);
        C.answered("eight rows of six", x, Checks.book(x, "row 1 2 3 4 5 6;".repeat(8)), 8);
        C.due("the last POINT", x.point(61, 0), 6);
        C.refused("WATER 6", x, x.point(62, 0), 1);
        C.refused("STATION 8", x, x.point(64, 0), 1);
    }

    private static void tokens() {
        FairLines x = new FairLines();
        C.answered("blanks", x, Checks.book(x, " \n row\n1  2 3 ;\nrow4 5 6;  "), 2);
        C.answered("no blanks", x, Checks.book(x, "row1 2 3;space7;"), 1);
        C.due("space", x.told(2), 7);
        C.answered("blanks alone", x, Checks.book(x, "  \n "), 0);
        C.bookFault("rows 1 2 3;", 2, 0);
        C.bookFault("row 1 2 3;\trow 4 5 6;", 1, 10);
        C.bookFault("Row 1 2 3;", 1, 0);
        C.bookFault("row 1 -2 3;", 1, 6);
        C.bookFault("row 1 2 0003;", 1, 8);
        C.bookFault("row 1 2 3\u0000;", 1, 9);
        C.bookFault("row 1 2 3;\u00e9", 1, 10);
        C.bookFault("order sl ants;", 2, 6);
        C.bookFault("az", 2, 0);
        C.bookFault("z", 2, 0);
        C.bookFault("{", 1, 0);
        C.bookFault("`", 1, 0);
        C.bookFault("9", 2, 0);
        C.bookFault("/", 1, 0);
        C.bookFault(":", 1, 0);
    }

    private static void faults() {
        C.bookFault("row ;", 2, 4);
        C.bookFault("; ", 2, 0);
        C.bookFault("7;", 2, 0);
        C.bookFault("space;", 2, 5);
        C.bookFault("space 1 2;", 2, 8);
        C.bookFault("space 1", 2, 7);
        C.bookFault("space 1  ", 2, 9);
        C.bookFault("keep", 2, 4);
        C.bookFault("order stations waters", 2, 21);
        C.bookFault("order 1;", 2, 6);
        C.bookFault("order waters 1;", 2, 13);
        C.bookFault("row 1 2;", 3, 7);
        C.bookFault("row 1;", 3, 5);
        C.bookFault("row 1 2 3;row 1 2;", 3, 17);
        C.bookFault("row 1 2 3;row 1 2 3 4;", 3, 20);
        C.bookFault("row 1 2 3 4 5 6;row 1 2 3 4 5 6 7;", 3, 32);
        C.bookFault("space 0;", 4, 6);
        C.bookFault("rise 0;", 4, 5);
        C.bookFault("step 0;", 4, 5);
        C.bookFault("step 100;", 4, 5);
        C.bookFault("keep 0 0;row 1 2 3;", 4, 5);
        C.bookFault("row 1 2 3;keep 1 0;row 1 2 3;", 4, 15);
        C.bookFault("row 1 2 3;keep 0 3;", 4, 17);
        for (String word : new String[] {"space", "rise", "eye", "step"}) {
            C.bookFault(word + " 7;" + word + " 7;", 5, word.length() + 3);
        }
        C.bookFault("order waters;order waters;", 5, 13);
        C.bookFault("row 1 2 3;keep 0 2;keep 0 2;", 5, 26);
        C.bookFault("row 1 2 3;".repeat(9), 6, 80);
        C.bookFault("row 1 2 3 4 5 6 7;", 6, 16);
        C.bookFault("order slants slants slants slants slants slants slants;", 6, 48);
    }

    private static void firstFault() {
        C.bookFault("eye 1;eye", 5, 6);
        C.bookFault("row 1 2 3;".repeat(8) + "row", 6, 80);
        C.bookFault("row 1 2 3;".repeat(8) + "row?", 6, 80);
        C.bookFault("row 1 2 3 4 5 6 7777;", 1, 16);
        C.bookFault("row 1 2 3;row 1 2 3 4444;", 1, 20);
        C.bookFault("space 0", 4, 6);
        C.bookFault("space 0?", 4, 6);
        C.bookFault("order slants slants slants slants slants slants up;", 2, 48);
        C.bookFault("keep 1000", 1, 5);
        C.bookFault("row 1 2", 2, 7);
        C.bookFault("row 1 2?", 1, 7);
    }

    private static void pointsAndMoves() {
        FairLines x = Checks.withBook("row 1 2 3 4;row 5 6 7 8;keep 1 1;");
        for (int station = 0; station < 2; station++) {
            for (int water = 0; water < 4; water++) {
                int point = 8 * station + water;
                C.answered("point", x, x.point(point, 0), 4 * station + water + 1);
                C.answered("in the BOOK", x, x.point(point, 1), 4 * station + water + 1);
                C.answered("KEPT", x, x.point(point, 2), point == 9 ? 1 : 0);
            }
        }
        C.refused("point -1", x, x.point(-1, 0), 1);
        C.refused("WATER 4", x, x.point(4, 0), 1);
        C.refused("WATER 7", x, x.point(7, 0), 1);
        C.refused("STATION 2", x, x.point(16, 0), 1);
        C.refused("what -1", x, x.point(0, -1), 1);
        C.refused("what 3", x, x.point(0, 3), 1);
        C.refused("move of no POINT", x, x.move(12, 1), 1);
        C.refused("move to -1", x, x.move(0, -1), 1);
        C.refused("move to 1000", x, x.move(0, 1000), 1);
        C.refused("move of a KEPT one to 1000", x, x.move(9, 1000), 1);
        C.refused("move of a KEPT one", x, x.move(9, 1), 7);
        C.due("it stays", x.point(9, 0), 6);
        C.due("move to 999", x.move(0, 999), true);
        C.due("move to 0", x.move(11, 0), true);
        C.due("move to where it is", x.move(11, 0), true);
        C.due("on the floor", x.point(0, 0), 999);
        C.due("in the BOOK", x.point(0, 1), 1);
        C.due("on the floor", x.point(11, 0), 0);
    }

    private static void keeping() {
        FairLines x = Checks.withBook("row 1 2 3 4;row 5 6 7 8;keep 1 1;");
        C.refused("keep no POINT", x, x.keep(4, true), 1);
        C.refused("free no POINT", x, x.keep(-1, false), 1);
        C.refused("KEPT already", x, x.keep(9, true), 7);
        C.refused("free already", x, x.keep(0, false), 7);
        C.due("free", x.keep(9, false), true);
        C.due("is free", x.point(9, 2), 0);
        C.due("moves", x.move(9, 1), true);
        C.due("keep", x.keep(0, true), true);
        C.due("is KEPT", x.point(0, 2), 1);
        C.refused("moves no more", x, x.move(0, 1), 7);
    }
}
