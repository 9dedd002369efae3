import java.util.ArrayList;
import java.util.List;

/** The edges of the texts: TOKENS, BOOKS, WAYS and their FAULTS, sentence by sentence. */
public final class TextEdgesTest {

    private static final Checks C = new Checks("TextEdgesTest");
    private static final String[] SETTINGS = {"space", "rise", "eye", "step"};
    private static final String[] VIEWS = {"stations", "waters", "slants"};

    public static void main(String[] args) {
        tape();
        signs();
        signsInWays();
        numbers();
        asLongAsTheyGo();
        letterByLetter();
        strangeAnywhere();
        bookLength();
        rows();
        laterRows();
        settings();
        kept();
        order();
        firstAlongTheText();
        leastKind();
        replaced();
        wayLength();
        wayNumbers();
        ducks();
        nesting();
        thirty();
        stepsAtTheEnd();
        wayReplaced();
        faultTells();
        C.end();
    }

    /** A FAULT of a kind at the TOKEN behind the mark ^, which is no part of the text. */
    private static void bookFault(int kind, String marked) {
        C.bookFault(marked.replace("^", ""), kind, marked.indexOf('^'));
    }

    private static void wayFault(int kind, String marked) {
        C.wayFault(marked.replace("^", ""), kind, marked.indexOf('^'));
    }

    private static void bookTaken(String text, int stations) {
        FairLines x = new FairLines();
        C.answered("book '" + text + "'", x, Checks.book(x, text), stations);
        C.due("book '" + text + "' fault(0)", x.fault(0), 0);
        C.due("book '" + text + "' fault(1)", x.fault(1), -1);
    }

    private static void wayTaken(String text, int steps) {
        FairLines x = new FairLines();
        C.answered("way '" + text + "'", x, Checks.way(x, text), steps);
        C.due("way '" + text + "' fault(0)", x.fault(0), 0);
        C.due("way '" + text + "' fault(1)", x.fault(1), -1);
    }

    private static void tape() {
        C.sentence("NONE if there would be more than 600");
        FairLines x = new FairLines();
        for (int many = 20; many <= 600; many += 20) {
            C.due("feed", x.feed(0x20202020, 0x20202020, 0x20202020, 0x20202020, 0x20202020), many);
        }
        C.due("the 601st", x.feed(0, 0, 0, 0, 0), -1);
        C.due("feed has no STATUS", x.status(), 0);
        C.answered("nothing came behind the 600", x, x.book(600), 0);
        C.sentence("the tape (which is empty then)");
        C.due("behind a BOOK", x.feed(0, 0, 0, 0, 0), 20);
        C.refused("a FAULT", x, x.book(1), 9);
        C.due("behind one with a FAULT", x.feed(0x20202020, 0, 0, 0, 0), 20);
        C.answered("a BOOK of the first byte", x, x.book(1), 0);
        C.refused("the rest is gone", x, x.book(1), 1);
        C.due("behind none", x.feed(0x20202020, 0, 0, 0, 0), 20);
        C.answered("a BOOK of no byte", x, x.book(0), 0);
        C.refused("the rest is gone", x, x.book(1), 1);
        C.sentence("the highest of each int first");
        Checks.feed(x, "row 7 8 9;row 6 5 4;");
        C.answered("all five ints", x, x.book(20), 2);
        int[] due = {7, 8, 9};
        for (int water = 0; water < 3; water++) {
            C.due("of the first row", x.point(water, 0), due[water]);
            C.due("of the second row", x.point(8 + water, 0), 6 - water);
        }
    }

    /** What a sign does at a place where a PART may begin, and within a row. */
    private static void signs() {
        C.sentence("between them blanks (10, 32): small letters, digits, the SIGN ;");
        for (char sign = 0; sign < 256; sign++) {
            String ahead = "row 1 2 3;" + sign + "eye 7;";
            String within = "row 1 2 3" + sign + "4;";
            if (sign == 10 || sign == 32) {
                bookTaken(ahead, 1);
                FairLines x = Checks.withBook(within);
                C.due("WATERS of '" + within + "'", x.told(1), 4);
            } else if (sign >= '0' && sign <= '9') {
                C.bookFault(ahead, 2, 10);
                FairLines x = Checks.withBook(within);
                C.due("the NUMBER of '" + within + "'", x.point(2, 0), 304 + 10 * (sign - '0'));
            } else if (sign == ';') {
                C.bookFault(ahead, 2, 10);
                C.bookFault(within, 2, 10);
            } else if (sign >= 'a' && sign <= 'z') {
                C.bookFault(ahead, 2, 10);
                C.bookFault(within, 2, 9);
            } else {
                C.bookFault(ahead, 1, 10);
                C.bookFault(within, 1, 9);
            }
        }
    }

    private static void signsInWays() {
        C.sentence("of TOKENS as in a BOOK");
        for (char sign = 0; sign < 256; sign++) {
            String text = "ease 1;" + sign + "ease 1;";
            if (sign == 10 || sign == 32) {
                wayTaken(text, 2);
            } else if (sign >= '0' && sign <= '9' || sign == ';' || sign >= 'a' && sign <= 'z') {
                C.wayFault(text, 2, 7);
            } else {
                C.wayFault(text, 1, 7);
            }
        }
    }

    private static void numbers() {
        C.sentence("NUMBERS (1 to 3 digits)");
        FairLines x = Checks.withBook("row 0 00 000 7 07 007;row 9 99 999 10 100 010;");
        int[] due = {0, 0, 0, 7, 7, 7, 9, 99, 999, 10, 100, 10};
        for (int i = 0; i < due.length; i++) {
            C.answered("NUMBER " + i, x, x.point(i / 6 * 8 + i % 6, 0), due[i]);
        }
        C.sentence("a NUMBER of 4 digits and more: at its first");
        bookFault(1, "row 1 2 ^0000;");
        bookFault(1, "row 1 2 ^1000;");
        bookFault(1, "row 1 2 ^9999;");
        bookFault(1, "row ^12345 2 3;");
        bookFault(1, "space ^0010;");
        bookFault(1, "^" + "7".repeat(600));
        bookFault(1, "row 1 2 3;keep ^0000 0;");
        wayFault(1, "ease ^0001;");
        wayFault(1, "move 0 0 ^1000;");
        wayFault(1, "bend slants 0 at 0 ^0001;");
    }

    private static void asLongAsTheyGo() {
        C.sentence("TOKENS, as long as they go");
        bookTaken("row1 2 3;space7;", 1);
        bookTaken("row1\n2 3 ; space 7 ;", 1);
        bookTaken("row 1 2 3;keep0 0;", 1);
        bookFault(2, "^rows 1 2 3;");
        bookFault(2, "^ro w 1 2 3;");
        bookFault(2, "^rowrow 1 2 3;");
        bookFault(2, "^orderwaters;");
        bookFault(2, "order ^watersslants;");
        bookFault(2, "^rowspace 7;");
        bookFault(3, "row 12 3^;");
        wayTaken("ease1;bend stations0at0 1;when;end;", 3);
        wayFault(2, "^eases 1;");
        wayFault(2, "bend stations 0 ^ats 0 1;");
    }

    /** Where # stands, a WORD with one letter changed, left out or put behind it can't stand. */
    private static void letters(String text, String word, boolean isBook) {
        List<String> others = new ArrayList<>();
        for (int i = 0; i < word.length(); i++) {
            char other = word.charAt(i) == 'z' ? 'a' : (char) (word.charAt(i) + 1);
            others.add(word.substring(0, i) + other + word.substring(i + 1));
            if (word.length() > 1) {
                others.add(word.substring(0, i) + word.substring(i + 1));
            }
        }
        others.add(word + "a");
        others.add("a" + word);
        for (String other : others) {
            if (isBook) {
                bookFault(2, text.replace("#", "^" + other));
            } else {
                wayFault(2, text.replace("#", "^" + other));
            }
        }
    }

    private static void letterByLetter() {
        C.sentence("PART: row .. or space .. or rise .. or eye .. or step .. or keep .. or order");
        letters("# 1 2 3;", "row", true);
        for (String word : SETTINGS) {
            letters("# 1;", word, true);
        }
        letters("row 1 2 3;# 0 0;", "keep", true);
        letters("# waters;", "order", true);
        C.sentence("VIEW: stations, or waters, or slants");
        for (String view : VIEWS) {
            letters("order #;", view, true);
            letters("bend # 0 at 0 1;", view, false);
        }
        C.sentence("STEP: ease .. or move .. or keep .. or free .. or bend .. or until .. or when");
        letters("# 1;", "ease", false);
        letters("# 0 0 0;", "move", false);
        letters("# 0 0;", "keep", false);
        letters("# 0 0;", "free", false);
        letters("# slants 0 at 0 1;", "bend", false);
        letters("bend slants 0 # 0 1;", "at", false);
        letters("# 1;end;", "until", false);
        letters("#;end;", "when", false);
        letters("when;#;end;", "end", false);
        C.sentence("a BOOK's WORDS are none of a WAY, and the other way about");
        for (String word : new String[] {"row 1 2 3;", "space 1;", "order waters;", "end;", "at"}) {
            wayFault(2, "^" + word);
        }
        for (String word : new String[] {"ease 1;", "move 0 0 0;", "free 0 0;", "bend", "until 1;",
            "when;", "end;", "at", "waters"}) {
            bookFault(2, "row 1 2 3;^" + word);
        }
    }

    /** Behind each blank of a text a TOKEN may begin: what is none is the FAULT there. */
    private static void strangeAnywhere() {
        C.sentence("1 no TOKEN begins so (a NUMBER of 4 digits and more: at its first)");
        String book = "row 1 2 3 ; row 4 5 6 ; keep 1 2 ; space 1 ; order waters slants ; eye 2 ;";
        String way = "ease 1 ; when ; move 0 0 1 ; until 2 ; keep 0 1 ; end ; end ; free 0 0 ; "
                + "bend slants 2 at 0 1 2 ;";
        for (String none : new String[] {"?", "1000", "0000 ;", "A", "\t", "\u0080", "-1"}) {
            for (int place = 0; place < book.length(); place++) {
                if (place == 0 || book.charAt(place - 1) == ' ') {
                    C.bookFault(book.substring(0, place) + none, 1, place);
                    C.bookFault(book.substring(0, place) + none + book.substring(place), 1, place);
                }
            }
            for (int place = 0; place < way.length(); place++) {
                if (place == 0 || way.charAt(place - 1) == ' ') {
                    C.wayFault(way.substring(0, place) + none, 1, place);
                    C.wayFault(way.substring(0, place) + none + way.substring(place), 1, place);
                }
            }
        }
        bookTaken(book, 2);
        wayTaken(way, 7);
    }

    private static void bookLength() {
        C.sentence("a TEXT of at most 600 bytes");
        bookTaken("", 0);
        bookTaken(" ".repeat(600), 0);
        bookTaken(" ".repeat(590) + "row 1 2 3;", 1);
        bookFault(1, " ".repeat(599) + "^?");
        C.sentence("(the end: the text's length)");
        bookFault(2, " ".repeat(597) + "row^");
        bookFault(2, "row 1 2" + " ".repeat(593) + "^");
        bookFault(2, "row^");
        bookFault(2, "row 1 2 3^");
        bookFault(2, "row 1 2 3 ^");
        bookFault(2, "row 1 2 3;keep^");
        bookFault(2, "row 1 2 3;keep 0^");
        bookFault(2, "row 1 2 3;keep 0 0^");
        bookFault(2, "order^");
        bookFault(2, "order waters\n^");
        for (String word : SETTINGS) {
            bookFault(2, word + "^");
            bookFault(2, word + " 7^");
        }
        C.sentence("The first n bytes of the tape");
        FairLines x = new FairLines();
        Checks.feed(x, "space 123; row");
        C.refused("within a NUMBER", x, x.book(8), 9);
        C.due("the end", x.fault(0), 2);
        C.due("the end", x.fault(1), 8);
        Checks.feed(x, "space 123; row");
        C.answered("up to the SIGN", x, x.book(10), 0);
        C.due("SPACE", x.told(2), 123);
        Checks.feed(x, "space 123;row 1 2 3;eye 1;step 3;");
        C.answered("up to a PART", x, x.book(20), 1);
        C.due("EYE is behind it", x.told(4), 5);
        cuts("row 1 22 333 ;  order waters slants;\nspace 12; ");
        cuts("when; move 0 0 12 ;bend stations 0 at 0 1;\n  end; ");
    }

    /** All that is behind the first n bytes is as if it had not been fed. */
    private static void cuts(String text) {
        for (int n = 0; n <= text.length(); n++) {
            for (int turn = 0; turn < 2; turn++) {
                FairLines cut = new FairLines();
                FairLines alone = new FairLines();
                Checks.feed(cut, text);
                Checks.feed(alone, text.substring(0, n));
                long got = turn == 0 ? cut.book(n) : cut.way(n);
                long want = turn == 0 ? alone.book(n) : alone.way(n);
                String what = n + " bytes of '" + text + "'";
                C.due(what, got, want);
                C.due(what + " fault(0)", cut.fault(0), alone.fault(0));
                C.due(what + " fault(1)", cut.fault(1), alone.fault(1));
            }
        }
    }

    private static String row(int many) {
        return "row" + " 5".repeat(many) + ";";
    }

    private static void rows() {
        C.sentence("WATERS 0, 1 .. (3 to 6 of them)");
        bookFault(2, "row^;");
        bookFault(2, "row ^x;");
        bookFault(3, "row 5^;");
        bookFault(3, "row 5 5^;");
        for (int many = 3; many <= 6; many++) {
            FairLines x = new FairLines();
            C.answered(row(many), x, Checks.book(x, row(many)), 1);
            C.answered("WATERS", x, x.told(1), many);
        }
        C.sentence("6 a 7th NUMBER of the first row (at it)");
        bookFault(6, "row 5 5 5 5 5 5 ^5;");
        bookFault(6, "row 5 5 5 5 5 5 ^5 5 5;");
        bookFault(6, "row 5 5 5 5 5 5 ^5");
        C.sentence("STATIONS, at most 8; 6 a 9th row (at its WORD)");
        for (int stations = 0; stations <= 8; stations++) {
            bookTaken(row(4).repeat(stations), stations);
        }
        bookFault(6, row(4).repeat(8) + "^" + row(4));
        bookFault(6, row(4).repeat(8) + "^row");
        bookFault(6, row(4).repeat(8) + "eye 1;^row 5 5;");
        bookTaken(row(6).repeat(8) + "keep 7 5;keep 0 0;", 8);
    }

    private static void laterRows() {
        C.sentence("a row that has not as many NUMBERS as the first one (at its ; , or at the "
                + "NUMBER that is one too many)");
        for (int waters = 3; waters <= 6; waters++) {
            bookTaken(row(waters) + row(waters), 2);
            bookFault(2, row(waters) + "row^;");
            for (int many = 1; many < waters; many++) {
                bookFault(3, row(waters) + "row" + " 5".repeat(many) + "^;");
            }
            bookFault(3, row(waters) + "row" + " 5".repeat(waters) + " ^5;");
            bookFault(3, row(waters) + "row" + " 5".repeat(waters) + " ^5 5 5;");
            bookFault(3, row(waters).repeat(7) + "row" + " 5".repeat(waters) + " ^5");
        }
    }

    private static void settings() {
        C.sentence("SPACE (1 to 999; 10 without), RISE (1 to 999; 10), EYE (0 to 999; 5), STEP (1 "
                + "to 99; 1)");
        int[] least = {1, 1, 0, 1};
        int[] most = {999, 999, 999, 99};
        int[] without = {10, 10, 5, 1};
        for (int i = 0; i < 4; i++) {
            for (int number : new int[] {least[i], most[i]}) {
                FairLines x = new FairLines();
                C.answered(SETTINGS[i], x, Checks.book(x, SETTINGS[i] + " " + number + ";"), 0);
                for (int what = 0; what < 4; what++) {
                    C.answered(SETTINGS[i] + " told", x, x.told(2 + what),
                            what == i ? number : without[what]);
                }
                Checks.book(x, "");
                C.answered("without", x, x.told(2 + i), without[i]);
            }
        }
        C.sentence("4 a NUMBER that can't be");
        bookFault(4, "space ^0;");
        bookFault(4, "rise ^0;");
        bookFault(4, "step ^0;");
        bookFault(4, "step ^100;");
        bookFault(4, "step ^999;");
        bookFault(4, "space ^000;");
        C.sentence("5 space, rise, eye, step told already (at that WORD)");
        for (String word : SETTINGS) {
            bookFault(5, word + " 7;^" + word + " 7;");
            bookFault(5, word + " 7;" + row(3) + "^" + word + " 8;");
            bookFault(5, word + " 7;^" + word);
            bookFault(2, word + " ^" + word + " 7;");
            bookFault(2, word + "^;");
            bookFault(2, word + " 7 ^7;");
        }
        bookTaken("space 7;rise 7;eye 7;step 7;order waters;", 0);
    }

    private static void kept() {
        C.sentence("keep s w: that POINT (of a row told ahead) is KEPT");
        for (int s = 0; s < 3; s++) {
            for (int w = 0; w < 4; w++) {
                FairLines x = Checks.withBook(row(4).repeat(3) + "keep " + s + " " + w + ";");
                for (int point = 0; point < 20; point++) {
                    int due = point % 8 > 3 ? -1 : point == 8 * s + w ? 1 : 0;
                    C.due("keep " + s + " " + w + ": " + point, x.point(point, 2), due);
                }
            }
        }
        C.sentence("4 (of keep: no such STATION, WATER)");
        bookFault(4, "keep ^0 0;" + row(3));
        bookFault(4, row(3) + "keep ^1 0;" + row(3));
        bookFault(4, row(3) + row(3) + "keep ^2 0;");
        bookFault(4, row(3) + row(3) + "keep ^999 0;");
        bookFault(4, row(3) + "keep 0 ^3;");
        bookFault(4, row(6) + "keep 0 ^6;");
        bookFault(4, row(6).repeat(8) + "keep ^8 0;");
        bookTaken(row(3) + "keep 0 2;" + row(3) + "keep 1 2;", 2);
        C.sentence("5 a POINT KEPT already (at keep's second NUMBER)");
        bookFault(5, row(3) + "keep 0 0;keep 0 ^0;");
        bookFault(5, row(3) + "keep 0 0;keep 0 ^0");
        bookFault(5, row(3) + row(3) + "keep 1 2;keep 0 2;keep 1 1;keep 1 ^2;");
        bookFault(2, row(3) + "keep^;");
        bookFault(2, row(3) + "keep 0^;");
        bookFault(2, row(3) + "keep 0 0 ^0;");
    }

    private static void order() {
        C.sentence("ORDER: the VIEWS gone through in a ROUND, 1 to 6 of them, perhaps some again");
        for (int many = 1; many <= 6; many++) {
            for (int view = 0; view < 3; view++) {
                FairLines x = Checks.withBook("order" + (" " + VIEWS[view]).repeat(many) + ";");
                C.answered("VIEWS", x, x.told(6), many);
                C.answered("the last", x, x.view(many - 1), view);
                C.refused("one more", x, x.view(many), 6);
            }
        }
        C.sentence("(without it stations, waters, slants)");
        FairLines x = Checks.withBook("order slants;");
        Checks.book(x, "eye 1;");
        C.answered("VIEWS", x, x.told(6), 3);
        for (int k = 0; k < 3; k++) {
            C.answered("view " + k, x, x.view(k), k);
        }
        C.sentence("VIEW: stations, or waters, or slants");
        bookFault(2, "order^;");
        bookFault(2, "order ^station;");
        bookFault(2, "order ^slantss;");
        bookFault(2, "order waters ^row;");
        bookFault(2, "order ^0;");
        C.sentence("6 a 7th VIEW (at it)");
        bookFault(6, "order" + " waters".repeat(6) + " ^slants;");
        bookFault(6, "order" + " waters".repeat(6) + " ^slants up 7");
        bookFault(2, "order" + " waters".repeat(6) + " ^up;");
        bookFault(2, "order" + " waters".repeat(6) + " ^7;");
        bookFault(2, "order" + " waters".repeat(6) + "^");
        C.sentence("5 order told already (at that WORD)");
        bookFault(5, "order waters;^order slants;");
        bookFault(5, "order waters;^order");
    }

    private static void firstAlongTheText() {
        C.sentence("FAULTS, the first along the text");
        bookFault(2, "^7 2 3;?");
        bookFault(3, "row 1 2^;?");
        bookFault(4, "space ^0?");
        bookFault(5, "eye 1;^eye ?");
        bookFault(6, row(3).repeat(8) + "^row ?");
        bookFault(1, "row 1 2 ^? ;");
        bookFault(1, "eye 1;^?eye 1;");
        bookFault(2, "row 1 2 3 ^eye 1000;");
        wayFault(2, "ease ^ease 1000;");
        wayFault(4, "ease ^0?");
        wayFault(5, "when;when;when;^when ?");
    }

    private static void leastKind() {
        C.sentence("(of one TOKEN the least kind)");
        bookFault(1, "row 1 2 3 4 5 6 ^7777;");
        bookFault(1, row(3) + "row 1 2 3 ^4444;");
        bookFault(1, "space ^1000;");
        bookFault(1, row(3) + "keep 0 0;keep 0 ^0000;");
        bookFault(2, "row^;");
        bookFault(2, row(3) + "row^;");
        bookFault(2, "order" + " waters".repeat(6) + " ^row;");
        bookFault(4, row(3) + "keep 0 0;keep ^1 0;");
        wayFault(2, "when;when;when;^up;");
        wayFault(2, "ease 1;".repeat(30) + "^up;");
        wayFault(5, "ease 1;".repeat(27) + "when;when;when;^until 0;");
        wayFault(6, "ease 1;".repeat(30) + "^until 0;");
        wayFault(1, "bend waters 0 at 0 ^0000;");
    }

    private static void replaced() {
        C.sentence("A BOOK that is taken is there in place of that ahead (its BREADTHS are the "
                + "floor's, too)");
        FairLines x = Checks.withBook("row 1 2 3 4;row 1 2 3 4;space 2;rise 3;eye 4;step 6;"
                + "order slants;keep 1 3;");
        x.move(0, 9);
        x.keep(0, true);
        C.sentence("9: the old one stays");
        C.refused("a FAULT at the end", x, Checks.book(x, "row 7 7 7;space 9;keep 0 0;row 7 7"), 9);
        int[] old = {2, 4, 2, 3, 4, 6, 1};
        for (int what = 0; what < old.length; what++) {
            C.answered("told " + what, x, x.told(what), old[what]);
        }
        C.due("the floor", x.point(0, 0), 9);
        C.due("the BOOK", x.point(0, 1), 1);
        C.due("KEPT", x.point(0, 2) + x.point(11, 2), 2);
        C.sentence("A BOOK that is taken is there in place of that ahead");
        C.answered("a lesser one", x, Checks.book(x, "row 7 8 9;"), 1);
        int[] now = {1, 3, 10, 10, 5, 1, 3};
        for (int what = 0; what < now.length; what++) {
            C.answered("told " + what, x, x.told(what), now[what]);
        }
        for (int water = 0; water < 3; water++) {
            C.due("the floor", x.point(water, 0), 7 + water);
            C.due("the BOOK", x.point(water, 1), 7 + water);
            C.due("not KEPT", x.point(water, 2), 0);
        }
        C.refused("WATER 3", x, x.point(3, 0), 1);
        C.refused("STATION 1", x, x.point(8, 0), 1);
        C.answered("an empty one", x, Checks.book(x, ""), 0);
        C.refused("no POINT", x, x.point(0, 0), 1);
        C.answered("no WATERS", x, x.told(1), 0);
    }

    private static void wayLength() {
        C.sentence("a TEXT of at most 300 bytes");
        wayTaken("", 0);
        wayTaken(" ".repeat(300), 0);
        wayTaken(" ".repeat(293) + "ease 1;", 1);
        wayFault(1, " ".repeat(299) + "^?");
        wayFault(2, " ".repeat(296) + "ease^");
        C.sentence("1: n above 300");
        FairLines x = new FairLines();
        Checks.feed(x, "ease 1;" + " ".repeat(313));
        C.refused("301", x, x.way(301), 1);
        C.refused("320", x, x.way(320), 1);
        C.due("the tape stays", x.feed(0, 0, 0, 0, 0), 340);
        C.answered("300", x, x.way(300), 1);
        C.refused("the rest is gone", x, x.way(1), 1);
    }

    /** A NUMBER of a STEP, where # stands: from low to high, else FAULT 4 at it. */
    private static void wayNumber(String step, int low, int high) {
        wayTaken(step.replace("#", "" + low), 1);
        wayTaken(step.replace("#", "" + high), 1);
        if (low > 0) {
            wayFault(4, step.replace("#", "^" + (low - 1)));
        }
        if (high < 999) {
            wayFault(4, step.replace("#", "^" + (high + 1)));
            wayFault(4, step.replace("#", "^999"));
        }
        wayFault(1, step.replace("#", "^1000"));
        wayFault(2, step.replace("#", "^x"));
        wayFault(2, step.replaceAll(" ?#.*", "^"));
        wayFault(2, step.replaceAll("#.*", "^;"));
    }

    private static void wayNumbers() {
        C.sentence("ease n (1 to 60), until n (1 to 9)");
        wayNumber("ease #;", 1, 60);
        wayNumber("until #;end;", 1, 9);
        C.sentence("POINT s, w (0 to 7, 0 to 5) has BREADTH v");
        for (String word : new String[] {"keep", "free"}) {
            wayNumber(word + " # 0;", 0, 7);
            wayNumber(word + " 0 #;", 0, 5);
            wayFault(2, word + " 0 0 ^0;");
        }
        wayNumber("move # 0 0;", 0, 7);
        wayNumber("move 0 # 0;", 0, 5);
        wayNumber("move 0 0 #;", 0, 999);
        wayFault(2, "move 0 0^;");
        wayFault(2, "move 0 0 0 ^0;");
        wayFault(2, "ease 1 ^1;");
        wayFault(2, "until 1 ^1;end;");
        wayFault(2, "when ^1;end;");
        C.sentence("bend: a LATH on a LINE (0 to 12)");
        for (String view : VIEWS) {
            wayNumber("bend " + view + " # at 0 1;", 0, 12);
        }
        wayFault(2, "bend ^0 0 at 0 1;");
        wayFault(2, "bend ^row 0 at 0 1;");
        wayFault(2, "bend waters 0 ^0 1;");
        wayFault(2, "bend waters 0 ^to 0 1;");
        wayFault(2, "bend waters 0^;");
    }

    private static void ducks() {
        C.sentence("DUCKS at unlike PLACES (0 to 7)");
        wayNumber("bend waters 0 at # 1;", 0, 7);
        wayNumber("bend waters 0 at 1 #;", 0, 7);
        wayTaken("bend waters 0 at 0 1;", 1);
        wayFault(4, "bend waters 0 at ^8 1;");
        wayFault(4, "bend waters 0 at 1 ^8;");
        wayFault(4, "bend waters 0 at ^8");
        C.sentence("4 a DUCK's PLACE told again");
        wayFault(4, "bend waters 0 at 1 ^1;");
        wayFault(4, "bend waters 0 at 0 1 2 3 ^0;");
        wayFault(4, "bend waters 0 at 7 6 5 4 3 2 1 0 ^7;");
        wayFault(4, "bend waters 0 at 7 6 5 4 3 2 1 0 ^8;");
        C.sentence("bend VIEW NUMBER at NUMBER NUMBER {NUMBER} ;");
        wayTaken("bend waters 0 at 7 6 5 4 3 2 1 0;", 1);
        wayFault(2, "bend waters 0 at^;");
        wayFault(2, "bend waters 0 at 1^;");
        wayFault(2, "bend waters 0 at 1 ^x;");
        wayFault(2, "bend waters 0 at 1^");
        wayFault(2, "bend waters 0 at 1 2 ^x;");
        wayFault(2, "bend waters 0 at 1 2^");
    }

    private static void nesting() {
        C.sentence("5 an until, a when within three others (at its WORD)");
        for (String word : new String[] {"when;", "until 3;"}) {
            wayTaken(word + "end;", 1);
            wayTaken("when;" + word + "end;end;", 2);
            wayTaken("when;until 1;" + word + "end;end;end;", 3);
            wayTaken("when;when;when;end;" + word + "end;end;end;", 4);
            wayFault(5, "when;until 1;when;^" + word + "end;end;end;end;");
            wayFault(5, "until 1;until 1;until 1;ease 1;^" + word);
            wayFault(5, "when;when;when;end;when;^" + word);
        }
        wayTaken("when;when;when;ease 1;move 0 0 0;end;end;end;", 5);
        C.sentence("(an end without until or when; the text's end ahead of an end: 2)");
        wayFault(2, "^end;");
        wayFault(2, "ease 1;^end;");
        wayFault(2, "when;end;^end;");
        wayFault(2, "when;when;end;end;^end;");
        wayFault(2, "when;^");
        wayFault(2, "when; \n^");
        wayFault(2, "until 1;when;end;^");
        wayFault(2, "when;end^");
        wayFault(2, "when;end ^1;");
        wayFault(2, "when^");
        wayFault(2, "until 1^");
        FairLines x = new FairLines();
        for (int turn = 0; turn < 4; turn++) {
            C.refused("three stay open", x, Checks.way(x, "when;when;when;"), 9);
        }
        C.answered("not open any more", x, Checks.way(x, "when;when;when;end;end;end;"), 3);
        Checks.way(x, "when;");
        C.refused("nor is one", x, Checks.way(x, "end;"), 9);
    }

    private static void thirty() {
        C.sentence("6 a 31st STEP (at its WORD; end is none)");
        wayTaken("ease 1;".repeat(29), 29);
        wayTaken("ease 1;".repeat(30), 30);
        wayTaken("when;end;".repeat(30), 30);
        wayTaken("when;when;when;" + "ease 1;".repeat(27) + "end;end;end;", 30);
        String[] steps = {"ease 1;", "move 0 0 0;", "keep 0 0;", "free 0 0;", "when;end;",
            "until 1;end;", "bend waters 0 at 0 1;"};
        for (String step : steps) {
            wayTaken("ease 1;".repeat(29) + step, 30);
            wayFault(6, "ease 1;".repeat(30) + "^" + step);
            wayFault(6, "when;" + "ease 1;".repeat(29) + "^" + step);
        }
        wayFault(6, "when;end;".repeat(30) + "^when;end;");
        wayTaken("when;" + "ease 1;".repeat(29) + "end;", 30);
        wayFault(6, "ease 1;".repeat(30) + "^ease");
    }

    /** Thirty STEPS with their ends: the last one is done as the first. */
    private static void stepsAtTheEnd() {
        C.sentence("how many STEPS were done");
        FairLines x = Checks.withBook("row 1 2 3;");
        C.answered("way", x, Checks.way(x, "when;end;".repeat(29) + "move 0 2 8;"), 30);
        C.answered("run", x, x.run(), 30);
        C.due("the last is done", x.point(2, 0), 8);
        FairLines y = Checks.withBook("row 0 99 0 99 0;");
        C.answered("way", y, Checks.way(y, "when;end;".repeat(29) + "until 9;end;"), 30);
        C.answered("run", y, y.run(), 30);
        C.answered("way", y, Checks.way(y, "when;move 0 0 1;when;move 0 1 98;end;end;".repeat(7)
                + "keep 0 0;"), 29);
        C.answered("run", y, y.run(), 29);
        C.due("the last is done", y.point(0, 2), 1);
    }

    private static void wayReplaced() {
        C.sentence("the WAY (the empty one at first); 9: the old one stays");
        FairLines x = Checks.withBook("row 1 2 3;");
        C.answered("the empty one", x, x.run(), 0);
        Checks.way(x, "move 0 0 5;move 0 1 6;");
        C.refused("a FAULT at the end", x, Checks.way(x, "move 0 2 7;move 0 2 8"), 9);
        C.refused("too many bytes", x, x.way(1), 1);
        C.answered("the old one", x, x.run(), 2);
        C.due("done", x.point(0, 0), 5);
        C.due("not done", x.point(2, 0), 3);
        C.answered("one STEP", x, Checks.way(x, "move 0 2 7;"), 1);
        C.answered("the new one", x, x.run(), 1);
        C.due("done", x.point(2, 0), 7);
        C.answered("the empty one", x, Checks.way(x, ""), 0);
        C.answered("nothing is done", x, x.run(), 0);
    }

    private static void faultTells() {
        C.sentence("Of the latest book() or way() with STATUS 0 or 9; NONE ahead of any");
        FairLines x = new FairLines();
        x.book(1);
        x.way(-1);
        told(x, -1, -1);
        Checks.book(x, "row 1 2 3;eye");
        told(x, 2, 13);
        x.book(1);
        x.way(1);
        told(x, 2, 13);
        Checks.way(x, "ease 0;");
        told(x, 4, 5);
        Checks.way(x, "ease 1;");
        told(x, 0, -1);
        Checks.book(x, "?");
        told(x, 1, 0);
        Checks.book(x, "");
        told(x, 0, -1);
        C.sentence("status(), top(), bottom(), feed(), fault() have none");
        x.told(-1);
        x.fault(0);
        x.fault(5);
        x.top();
        x.bottom();
        x.feed(0, 0, 0, 0, 0);
        C.due("status", x.status(), 1);
    }

    private static void told(FairLines x, int kind, int place) {
        C.due("fault(0)", x.fault(0), kind);
        C.due("fault(1)", x.fault(1), place);
        C.due("others", x.fault(2), -1);
    }
}
