import java.nio.charset.StandardCharsets;
import java.util.function.Supplier;

/** Counts the answers that are not as due, and brings texts to the tape. */
final class Checks {

    /** A call on an object with one number in it; a boolean is told by is(). */
    interface Call {
        long on(FairLines x, int number);
    }

    private final String name;
    private String words = "";
    private int wrong;
    private int asked;

    Checks(String name) {
        this.name = name;
    }

    /** What the document says, in its words, to all answers that are asked for from here on. */
    void sentence(String said) {
        words = " '" + said + "',";
    }

    void due(String what, long got, long want) {
        asked++;
        if (got != want) {
            wrong++;
            System.out.println(name + ":" + words + " " + what + " answered " + got + ", due is "
                    + want);
        }
    }

    void due(String what, boolean got, boolean want) {
        due(what, got ? 1 : 0, want ? 1 : 0);
    }

    /** A call that is refused: its answer has been NONE or false, and its STATUS is told. */
    void refused(String what, FairLines x, long got, int status) {
        due(what, got, FairLines.NONE);
        due(what + " status()", x.status(), status);
    }

    void refused(String what, FairLines x, boolean got, int status) {
        due(what, got, false);
        due(what + " status()", x.status(), status);
    }

    /** An answer with STATUS 0, which tells NONE from -1. */
    void answered(String what, FairLines x, long got, long want) {
        due(what, got, want);
        due(what + " status()", x.status(), 0);
    }

    void fraction(String what, FairLines x, boolean got, long top, long bottom) {
        due(what, got, true);
        due(what + " status()", x.status(), 0);
        due(what + " top()", x.top(), top);
        due(what + " bottom()", x.bottom(), bottom);
    }

    static long is(boolean answer) {
        return answer ? 1 : FairLines.NONE;
    }

    /** One number on an object of its own, whose STATUS is another one ahead of the call. */
    void status(String what, Supplier<FairLines> made, Call call, int number, int status) {
        FairLines x = made.get();
        x.told(status == 0 ? -1 : 0);
        long got = call.on(x, number);
        String which = what + " with " + number;
        due(which + " status()", x.status(), status);
        if (status != 0) {
            due(which, got, FairLines.NONE);
        }
    }

    /** The least and the greatest number do, and what lies beyond them has a STATUS. */
    void limits(String what, Supplier<FairLines> made, int low, int high, int below, int above,
            Call call) {
        status(what, made, call, Integer.MIN_VALUE, below);
        status(what, made, call, low - 1, below);
        status(what, made, call, low, 0);
        status(what, made, call, high, 0);
        status(what, made, call, high + 1, above);
        status(what, made, call, Integer.MAX_VALUE, above);
    }

    void limits(String what, Supplier<FairLines> made, int low, int high, Call call) {
        limits(what, made, low, high, 1, 1, call);
    }

    void end() {
        System.out.println(name + ": " + asked + " answers, " + wrong + " not as due");
        if (wrong != 0) {
            System.exit(1);
        }
    }

    static int feed(FairLines x, String text) {
        byte[] bytes = text.getBytes(StandardCharsets.ISO_8859_1);
        int size = 0;
        for (int at = 0; at < bytes.length; at += 20) {
            int[] five = new int[5];
            for (int i = 0; i < 20; i++) {
                int sign = at + i < bytes.length ? bytes[at + i] & 255 : 0;
                five[i / 4] = five[i / 4] << 8 | sign;
            }
            size = x.feed(five[0], five[1], five[2], five[3], five[4]);
        }
        return size;
    }

    static int book(FairLines x, String text) {
        feed(x, text);
        return x.book(text.length());
    }

    static int way(FairLines x, String text) {
        feed(x, text);
        return x.way(text.length());
    }

    static FairLines withBook(String text) {
        FairLines x = new FairLines();
        book(x, text);
        return x;
    }

    /** The text of rows in which one BREADTH stands everywhere. */
    static String flat(int stations, int waters, int breadth) {
        return ("row" + (" " + breadth).repeat(waters) + ";").repeat(stations);
    }

    /** WATER 0 of some STATIONS, the others 0: with three WATERS no other LINE can be UNFAIR. */
    static FairLines water(String more, int... breadths) {
        StringBuilder text = new StringBuilder();
        for (int breadth : breadths) {
            text.append("row ").append(breadth).append(" 0 0;");
        }
        return withBook(text + more);
    }

    static void fill(FairLines x, int tray, int sort, long... numbers) {
        x.tray(tray, sort, numbers.length);
        for (int place = 0; place < numbers.length; place++) {
            x.write(tray, place, numbers[place]);
        }
    }

    void bookFault(String text, int kind, int place) {
        FairLines x = new FairLines();
        String what = "book '" + text + "'";
        refused(what, x, book(x, text), 9);
        due(what + " fault(0)", x.fault(0), kind);
        due(what + " fault(1)", x.fault(1), place);
    }

    void wayFault(String text, int kind, int place) {
        FairLines x = new FairLines();
        String what = "way '" + text + "'";
        refused(what, x, way(x, text), 9);
        due(what + " fault(0)", x.fault(0), kind);
        due(what + " fault(1)", x.fault(1), place);
    }
}
