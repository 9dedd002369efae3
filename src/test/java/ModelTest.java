import java.util.Random;

/** Long runs of calls, by numbers that are always the same, against the plain model. */
public final class ModelTest {

    private final Random random;
    private final FairLines x = new FairLines();
    private final Model m = new Model();
    private final StringBuilder story = new StringBuilder();
    private int stations;
    private int waters;
    private static int calls;

    private ModelTest(long seed) {
        random = new Random(seed);
    }

    public static void main(String[] args) {
        int runs = args.length > 0 ? Integer.parseInt(args[0]) : 250;
        long base = args.length > 1 ? Long.parseLong(args[1]) : 0;
        for (int run = 0; run < runs; run++) {
            new ModelTest(base + run).go(base + run);
        }
        System.out.println("ModelTest: " + calls + " calls, all as the model answers");
    }

    private void go(long seed) {
        if (random.nextInt(8) != 0) {
            book(bookText());
        }
        for (int i = 0; i < 120; i++) {
            one();
        }
        for (int p = 0; p < 64; p++) {
            for (int what = 0; what < 3; what++) {
                same("point(" + p + ", " + what + ")", x.point(p, what), m.point(p, what));
            }
        }
        if (story.length() == 0) {
            throw new IllegalStateException("no calls by seed " + seed);
        }
    }

    private void same(String call, long got, long want) {
        calls++;
        story.append(call).append(" -> ").append(got).append('\n');
        boolean alike = got == want && x.status() == m.status && x.top() == m.top.longValueExact()
                && x.bottom() == m.bottom.longValueExact() && x.fault(0) == m.fault(0)
                && x.fault(1) == m.fault(1);
        if (!alike) {
            System.out.println(story);
            System.out.println(call + " answered " + got + ", the model " + want + "; status "
                    + x.status() + ", " + m.status + "; fraction " + x.top() + "/" + x.bottom()
                    + ", " + m.top + "/" + m.bottom + "; fault " + x.fault(0) + " at "
                    + x.fault(1) + ", " + m.fault(0) + " at " + m.fault(1));
            System.exit(1);
        }
    }

    private void same(String call, boolean got, boolean want) {
        same(call, got ? 1 : 0, want ? 1 : 0);
    }

    // numbers, most of them possible

    private int some(int low, int high) {
        int r = random.nextInt(30);
        if (r == 0) {
            return low - 1 - random.nextInt(3);
        }
        if (r == 1) {
            return high + 1 + random.nextInt(3);
        }
        if (r == 2 && random.nextInt(10) == 0) {
            return random.nextInt();
        }
        if (r == 3 && random.nextInt(10) == 0) {
            return random.nextBoolean() ? Integer.MIN_VALUE : Integer.MAX_VALUE;
        }
        return inside(low, high);
    }

    private int inside(int low, int high) {
        return high <= low ? low : low + random.nextInt(high - low + 1);
    }

    private int somePoint() {
        return some(0, stations - 1) * 8 + some(0, waters - 1);
    }

    private int someLine(int view) {
        return some(-1, view == 0 ? stations - 1 : view == 1 ? waters - 1 : stations + waters - 2);
    }

    // texts

    private String blanks() {
        int r = random.nextInt(12);
        return r == 0 ? "  " : r == 1 ? "\n" : r == 2 ? " \n " : " ";
    }

    private String gap() {
        return random.nextInt(4) == 0 ? blanks() : "";
    }

    private String viewName() {
        return new String[] {"stations", "waters", "slants"}[random.nextInt(3)];
    }

    private String bookText() {
        int s = random.nextInt(10) == 0 ? random.nextInt(9) : 3 + random.nextInt(6);
        int w = 3 + random.nextInt(4);
        int noise = new int[] {0, 1, 2, 4, 10, 60, 999}[random.nextInt(7)];
        int a = random.nextInt(20);
        int b = random.nextInt(30);
        int c = random.nextInt(3);
        int d = random.nextInt(10) == 0 ? 940 : random.nextInt(60);
        StringBuilder text = new StringBuilder();
        int kept = 0;
        for (int i = 0; i < s; i++) {
            text.append("row");
            for (int j = 0; j < w; j++) {
                int v = d + a * i + b * j - c * i * j + random.nextInt(noise + 1) - noise / 2;
                text.append(blanks()).append(Math.max(0, Math.min(999, v)));
            }
            text.append(gap()).append(';').append(gap());
            if (random.nextInt(6) == 0 && kept < 3) {
                text.append("keep ").append(inside(0, i)).append(' ').append(inside(0, w - 1));
                text.append(';');
                kept++;
            }
        }
        text.append(setting("space", 1, 999)).append(setting("rise", 1, 999));
        text.append(setting("eye", 0, random.nextInt(4) == 0 ? 999 : 12));
        text.append(setting("step", 1, random.nextInt(3) == 0 ? 99 : 4));
        if (random.nextInt(2) == 0) {
            text.append("order");
            for (int i = inside(1, 6); i > 0; i--) {
                text.append(blanks()).append(viewName());
            }
            text.append(';').append(gap());
        }
        return maybeSpoilt(text);
    }

    /** PARTS as they come, in which the FAULTS 3 to 6 are frequent. */
    private String bookSoup() {
        StringBuilder text = new StringBuilder();
        int w = inside(3, 6);
        int odds = random.nextInt(40) + 2;
        for (int many = inside(1, 14); many > 0; many--) {
            boolean isOdd = random.nextInt(odds) == 0;
            switch (isOdd ? random.nextInt(8) : random.nextInt(3)) {
                case 0, 1 -> {
                    text.append("row");
                    for (int i = isOdd ? inside(0, 8) : w; i > 0; i--) {
                        text.append(' ').append(random.nextInt(isOdd ? 1200 : 100));
                    }
                }
                case 2 -> text.append("keep ").append(random.nextInt(isOdd ? 9 : 2)).append(' ')
                        .append(random.nextInt(isOdd ? 7 : 3));
                case 3 -> text.append("space ").append(random.nextInt(3));
                case 4 -> text.append("rise ").append(random.nextInt(3));
                case 5 -> text.append("eye ").append(random.nextInt(1020));
                case 6 -> text.append("step ").append(random.nextInt(110));
                default -> {
                    text.append("order");
                    for (int i = inside(0, 8); i > 0; i--) {
                        text.append(' ').append(viewName());
                    }
                }
            }
            text.append(';');
        }
        return text.toString();
    }

    /** STEPS as they come: many of them, deep ones, NUMBERS that can't be. */
    private String waySoup() {
        StringBuilder text = new StringBuilder();
        int odds = random.nextInt(60) + 2;
        int depth = 0;
        for (int many = inside(1, 40); many > 0 && text.length() < 280; many--) {
            boolean isOdd = random.nextInt(odds) == 0;
            switch (random.nextInt(8)) {
                case 0 -> text.append("ease ").append(isOdd ? 60 + random.nextInt(2) : 1);
                case 1 -> text.append("move 1 1 ").append(random.nextInt(isOdd ? 1100 : 90));
                case 2 -> text.append("keep 1 ").append(random.nextInt(isOdd ? 8 : 6));
                case 3 -> text.append("free ").append(random.nextInt(isOdd ? 10 : 8)).append(" 1");
                case 4 -> {
                    text.append("until ").append(isOdd ? random.nextInt(12) : 9);
                    depth++;
                }
                case 5 -> {
                    text.append("when");
                    depth++;
                }
                case 6 -> {
                    text.append("bend ").append(viewName()).append(' ')
                            .append(random.nextInt(isOdd ? 15 : 8)).append(" at 0 ")
                            .append(random.nextInt(isOdd ? 9 : 4) + (isOdd ? 0 : 1));
                }
                default -> {
                    text.append(depth > 0 || isOdd ? "end" : "ease 2");
                    depth -= depth > 0 ? 1 : 0;
                }
            }
            text.append(';');
        }
        while (depth-- > 0 && random.nextInt(20) != 0 && text.length() < 296) {
            text.append("end;");
        }
        return text.toString();
    }

    private String setting(String word, int low, int high) {
        if (random.nextInt(2) == 0) {
            return "";
        }
        return word + blanks() + inside(low, high) + gap() + ";" + gap();
    }

    private String wayText() {
        StringBuilder text = new StringBuilder();
        addSteps(text, 0, inside(0, 5));
        return maybeSpoilt(text);
    }

    private void addSteps(StringBuilder text, int depth, int many) {
        for (int i = 0; i < many; i++) {
            int s = inside(0, Math.max(0, stations - 1));
            int w = inside(0, Math.max(0, waters - 1));
            switch (random.nextInt(7)) {
                case 0 -> text.append("ease ").append(inside(1, 60));
                case 1 -> text.append("move ").append(s).append(' ').append(w).append(' ')
                        .append(random.nextInt(5) == 0 ? inside(0, 999) : inside(0, 90));
                case 2 -> text.append("keep ").append(s).append(blanks()).append(w);
                case 3 -> text.append("free ").append(s).append(blanks()).append(w);
                case 4 -> addBend(text);
                default -> {
                    if (depth < 3) {
                        text.append(random.nextBoolean() ? "when" : "until " + inside(1, 9));
                        text.append(';').append(gap());
                        addSteps(text, depth + 1, inside(0, 3));
                        text.append("end");
                    } else {
                        text.append("ease 1");
                    }
                }
            }
            text.append(gap()).append(';').append(gap());
        }
    }

    private void addBend(StringBuilder text) {
        text.append("bend ").append(viewName()).append(' ').append(inside(0, 12)).append(" at");
        int ducks = 0;
        for (int many = inside(2, 4); many > 0; many--) {
            int duck = inside(0, random.nextInt(4) == 0 ? 7 : 4);
            if ((ducks >> duck & 1) == 0 || random.nextInt(20) == 0) {
                text.append(' ').append(duck);
                ducks |= 1 << duck;
            }
        }
        if (Integer.bitCount(ducks) < 2 && random.nextInt(5) != 0) {
            text.append((ducks & 2) == 0 ? " 1" : " 2");
        }
    }

    private String maybeSpoilt(StringBuilder text) {
        if (random.nextInt(3) == 0) {
            String[] bits = {" ", "0", "7", "12", "999", ";", "x", "row", "row 1 2 3;", "eye 3;",
                "keep", "keep 0 0;", "order", "slants", "waters", "end;", "when;", "until 2;",
                "at", "ease 0;", "step 0;", "\t", "A", "-", "move 1 1 1;", "\n", "1000", "\u00e9"};
            for (int times = inside(1, 3); times > 0; times--) {
                int at = inside(0, text.length());
                int until = random.nextBoolean() ? at : Math.min(text.length(),
                        at + random.nextInt(4));
                text.replace(at, until, random.nextInt(4) == 0 ? ""
                        : bits[random.nextInt(bits.length)]);
            }
        }
        return text.toString();
    }

    private int feed(String text) {
        int[] five = new int[5];
        for (int at = 0; at < text.length(); at += 20) {
            for (int i = 0; i < 20; i++) {
                int sign = at + i < text.length() ? text.charAt(at + i) : random.nextInt(256);
                five[i / 4] = five[i / 4] << 8 | sign;
            }
            same("feed of '" + text.substring(at, Math.min(text.length(), at + 20)) + "'",
                    x.feed(five[0], five[1], five[2], five[3], five[4]),
                    m.feed(five[0], five[1], five[2], five[3], five[4]));
        }
        return random.nextInt(40) == 0 ? some(0, text.length()) : text.length();
    }

    private void book(String text) {
        int n = feed(text);
        same("book(" + n + ")", x.book(n), m.book(n));
        stations = x.told(0);
        waters = x.told(1);
        m.told(1);
    }

    private void way(String text) {
        int n = feed(text);
        same("way(" + n + ")", x.way(n), m.way(n));
    }

    // calls

    private void one() {
        switch (random.nextInt(10)) {
            case 0 -> trayCall();
            case 1 -> pointCall();
            case 2, 3 -> lineCall();
            case 4 -> roundCall();
            case 5 -> wayCall();
            case 6 -> shapeCall();
            case 7 -> boatCall();
            case 8 -> floatCall();
            default -> rareCall();
        }
    }

    private void rareCall() {
        switch (random.nextInt(12)) {
            case 0 -> book(random.nextInt(3) == 0 ? bookSoup() : bookText());
            case 1 -> same("mark", x.mark(), m.mark());
            case 2 -> {
                same("back", x.back(), m.back());
                stations = x.told(0);
                waters = x.told(1);
                m.told(1);
            }
            case 3, 4, 5 -> way(random.nextInt(3) == 0 ? waySoup() : wayText());
            case 6, 7 -> same("run", x.run(), m.run());
            case 8 -> {
                int by = inside(1, 3);
                int many = inside(1, by == 1 ? 5 : by == 2 ? 4 : 3);
                fillPoints(many);
                if (random.nextInt(3) != 0) {
                    x.rounds(60);
                    m.rounds(60);
                    shake(many);
                }
                leastCalls(0, many, by);
            }
            case 9 -> slipCalls();
            default -> {
                int what = some(0, 6);
                same("told(" + what + ")", x.told(what), m.told(what));
                same("view(" + what + ")", x.view(what), m.view(what));
            }
        }
    }

    private void trayCall() {
        int tray = some(0, 3);
        int place = some(0, 12);
        switch (random.nextInt(4)) {
            case 0 -> {
                int sort = random.nextInt(3) == 0 ? some(0, 3) : 2;
                int many = random.nextInt(4) == 0 ? some(0, 60) : 12;
                same("tray(" + tray + ", " + sort + ", " + many + ")", x.tray(tray, sort, many),
                        m.tray(tray, sort, many));
            }
            case 1 -> {
                long v = random.nextInt(4) == 0 ? random.nextLong() : some(0, 400);
                same("write(" + tray + ", " + place + ", " + v + ")", x.write(tray, place, v),
                        m.write(tray, place, v));
            }
            case 2 -> same("read(" + tray + ", " + place + ")", x.read(tray, place),
                    m.read(tray, place));
            default -> {
                int to = some(0, 3);
                int at = some(0, 12);
                int many = some(0, 8);
                same("pour(" + tray + ", " + place + ", " + to + ", " + at + ", " + many + ")",
                        x.pour(tray, place, to, at, many), m.pour(tray, place, to, at, many));
            }
        }
    }

    private void pointCall() {
        int p = somePoint();
        int what = some(0, 2);
        switch (random.nextInt(3)) {
            case 0 -> same("point(" + p + ", " + what + ")", x.point(p, what), m.point(p, what));
            case 1 -> {
                int v = random.nextInt(4) == 0 ? some(0, 999) : Math.max(0, x.point(p, 0) - 2
                        + random.nextInt(5));
                same("move(" + p + ", " + v + ")", x.move(p, v), m.move(p, v));
            }
            default -> {
                boolean is = random.nextInt(3) == 0;
                same("keep(" + p + ", " + is + ")", x.keep(p, is), m.keep(p, is));
            }
        }
    }

    private void lineCall() {
        int view = some(0, 2);
        int line = someLine(view);
        int place = some(0, 7);
        String at = "(" + view + ", " + line + ", " + place + ")";
        switch (random.nextInt(8)) {
            case 0 -> same("lines" + at, x.lines(view, line), m.lines(view, line));
            case 1 -> same("lies" + at, x.lies(view, line, place), m.lies(view, line, place));
            case 2 -> same("bend" + at, x.bend(view, line, place), m.bend(view, line, place));
            case 3 -> same("unfair" + at, x.unfair(view, line), m.unfair(view, line));
            case 4 -> same("unfairAll", x.unfairAll(), m.unfairAll());
            case 5 -> {
                int k = some(0, 12);
                int what = some(0, 2);
                same("where(" + k + ", " + what + ")", x.where(k, what), m.where(k, what));
            }
            case 6 -> same("strain" + at, x.strain(view, line), m.strain(view, line));
            default -> {
                int places = x.lines(view, line);
                m.lines(view, line);
                int ducks = random.nextInt(6) == 0 ? some(0, 255)
                        : random.nextInt(1 << Math.max(0, Math.min(8, places)));
                int here = inside(0, Math.max(0, places - 1));
                same("lath" + at + " by " + ducks + " at " + here, x.lath(view, line, ducks, here),
                        m.lath(view, line, ducks, here));
            }
        }
    }

    private void roundCall() {
        int what = some(0, 2);
        switch (random.nextInt(4)) {
            case 0 -> {
                int most = some(1, 60);
                same("rounds(" + most + ")", x.rounds(most), m.rounds(most));
                for (int i = 0; i < 3; i++) {
                    same("ended(" + i + ")", x.ended(i), m.ended(i));
                }
            }
            case 1 -> same("ended(" + what + ")", x.ended(what), m.ended(what));
            case 2 -> {
                int k = some(0, 4);
                same("leastMove(" + k + ")", x.leastMove(k), m.leastMove(k));
            }
            default -> leastCalls(some(0, 3), some(1, 3), some(1, 3));
        }
    }

    private void fillPoints(int many) {
        same("tray", x.tray(0, 1, many), m.tray(0, 1, many));
        int start = somePoint();
        for (int i = 0; i < many; i++) {
            int p = random.nextInt(3) == 0 ? somePoint() : start + i * (random.nextInt(3) == 0 ? 1 : 8);
            same("write " + p, x.write(0, i, p), m.write(0, i, p));
        }
    }

    /** Moves some POINTS that are in the TRAY, so that small moves back may be enough. */
    private void shake(int many) {
        for (int i = 0; i < many; i++) {
            int p = (int) x.read(0, i);
            m.read(0, i);
            int v = Math.max(0, x.point(p, 0) + inside(-3, 3));
            same("move(" + p + ", " + v + ")", x.move(p, v), m.move(p, v));
        }
    }

    private void leastCalls(int tray, int many, int by) {
        same("least(" + tray + ", " + many + ", " + by + ")", x.least(tray, many, by),
                m.least(tray, many, by));
        for (int k = 0; k < 5; k++) {
            same("leastMove(" + k + ")", x.leastMove(k), m.leastMove(k));
        }
    }

    private void slipCalls() {
        same("slips", x.slips(), m.slips());
        for (int i = 0; i < 3; i++) {
            int k = some(0, Math.max(1, x.slips()));
            int what = some(0, 1);
            same("slip(" + k + ", " + what + ")", x.slip(k, what), m.slip(k, what));
        }
    }

    private void wayCall() {
        int what = some(0, 2);
        int station = some(0, stations - 1);
        switch (random.nextInt(5)) {
            case 0 -> same("ran(" + what + ")", x.ran(what), m.ran(what));
            case 1 -> same("given(" + what + ")", x.given(what), m.given(what));
            case 2 -> same("crook(" + station + ")", x.crook(station), m.crook(station));
            case 3 -> same("rib(" + station + ")", x.rib(station), m.rib(station));
            default -> {
                int tray = some(0, 3);
                int many = some(Math.min(stations, 10), 10);
                if (random.nextInt(2) == 0 && tray >= 0 && tray < 4 && many >= 0 && many < 61) {
                    same("tray", x.tray(tray, 1, many), m.tray(tray, 1, many));
                    for (int i = 0; i < many; i++) {
                        int v = inside(0, 30);
                        same("write", x.write(tray, i, v), m.write(tray, i, v));
                    }
                }
                same("ribs(" + tray + ", " + many + ")", x.ribs(tray, many), m.ribs(tray, many));
                for (int s = 0; s < 8; s++) {
                    same("rib(" + s + ")", x.rib(s), m.rib(s));
                }
            }
        }
    }

    private void shapeCall() {
        int p = somePoint();
        int strip = some(0, waters - 2);
        int station = some(0, stations - 1);
        switch (random.nextInt(6)) {
            case 0 -> same("bevel(" + p + ")", x.bevel(p), m.bevel(p));
            case 1 -> same("width(" + strip + ", " + station + ")", x.width(strip, station),
                    m.width(strip, station));
            case 2 -> same("length(" + strip + ")", x.length(strip), m.length(strip));
            case 3 -> same("banana(" + strip + ")", x.banana(strip), m.banana(strip));
            case 4 -> {
                int k = some(-1, 4);
                same("plank(" + k + ")", x.plank(k), m.plank(k));
            }
            default -> {
                int tree = some(1, random.nextInt(3) == 0 ? 9999 : 150);
                same("planks(" + tree + ")", x.planks(tree), m.planks(tree));
                for (int k = -1; k < 6; k++) {
                    same("plank(" + k + ")", x.plank(k), m.plank(k));
                }
            }
        }
    }

    private void boatCall() {
        int seed = some(0, 9999);
        int hand = some(0, 20);
        int tray = some(0, 3);
        int what = some(0, 1);
        switch (random.nextInt(4)) {
            case 0 -> {
                int k = some(0, 39);
                int p = somePoint();
                same("boat(" + seed + ", " + hand + ", " + k + ", " + p + ")",
                        x.boat(seed, hand, k, p), m.boat(seed, hand, k, p));
            }
            case 1 -> {
                int n = some(2, 40);
                same("apart(" + seed + ", " + hand + ", " + n + ", " + what + ")",
                        x.apart(seed, hand, n, what), m.apart(seed, hand, n, what));
            }
            case 2 -> {
                int n = some(1, 40);
                int many = some(1, random.nextInt(4) == 0 ? 20 : 3);
                int slack = some(0, random.nextInt(4) == 0 ? 99 : 12);
                if (in(tray) && many > 0 && many < 30 && random.nextInt(4) != 0) {
                    same("tray", x.tray(tray, 2, 2 * many), m.tray(tray, 2, 2 * many));
                    for (int i = 0; i < many; i++) {
                        int p = somePoint();
                        int v = x.point(p, 0) + inside(0, 6) - 3;
                        x.write(tray, 2 * i, p);
                        m.write(tray, 2 * i, p);
                        same("write", x.write(tray, 2 * i + 1, v), m.write(tray, 2 * i + 1, v));
                    }
                }
                same("built", x.built(seed, hand, n, tray, many, slack, what),
                        m.built(seed, hand, n, tray, many, slack, what));
            }
            default -> wetCalls(tray);
        }
    }

    private static boolean in(int tray) {
        return tray >= 0 && tray < 4;
    }

    private void wetCalls(int tray) {
        int many = some(1, random.nextInt(4) == 0 ? 20 : 4);
        if (in(tray) && many > 0 && many <= 20 && random.nextInt(4) != 0) {
            same("tray", x.tray(tray, 2, 3 * many), m.tray(tray, 2, 3 * many));
            int along = inside(-50, 50);
            int across = inside(-50, 50);
            for (int i = 0; i < many; i++) {
                int side = random.nextInt(2);
                int real = some(0, random.nextInt(2) == 0 ? 9999 : 300);
                int now = (int) (real + (long) real * (side == 0 ? along : across) / 1000)
                        + inside(-1, 1);
                x.write(tray, 3 * i, real);
                m.write(tray, 3 * i, real);
                x.write(tray, 3 * i + 1, Math.max(0, now));
                m.write(tray, 3 * i + 1, Math.max(0, now));
                same("write " + real + " " + now + " " + side, x.write(tray, 3 * i + 2, side),
                        m.write(tray, 3 * i + 2, side));
            }
        }
        for (int i = 0; i < 6; i++) {
            same("wet(" + tray + ", " + many + ", " + i + ")", x.wet(tray, many, i),
                    m.wet(tray, many, i));
        }
        int what = some(0, 5);
        same("wet(" + tray + ", " + many + ", " + what + ")", x.wet(tray, many, what),
                m.wet(tray, many, what));
    }

    private void floatCall() {
        int water = some(1, waters - 1);
        switch (random.nextInt(3)) {
            case 0 -> same("volume(" + water + ")", x.volume(water), m.volume(water));
            case 1 -> same("centre(" + water + ")", x.centre(water), m.centre(water));
            default -> {
                int p = somePoint();
                int v = some(0, 999);
                same("carried(" + water + ", " + p + ", " + v + ")", x.carried(water, p, v),
                        m.carried(water, p, v));
            }
        }
    }
}
