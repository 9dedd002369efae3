import java.math.BigInteger;
import java.util.ArrayList;
import java.util.Arrays;
import java.util.HashSet;
import java.util.List;
import java.util.Set;

/** The document once more, by the plainest means, slow and with the whole library. */
final class Model {

    static final int NONE = -1;

    private static final class Refused extends RuntimeException {
        private static final long serialVersionUID = 1L;
        final int status;

        Refused(int status) {
            this.status = status;
        }
    }

    private static final class Fault extends RuntimeException {
        private static final long serialVersionUID = 1L;
        final int kind;
        final int place;

        Fault(int kind, int place) {
            this.kind = kind;
            this.place = place;
        }
    }

    private record Token(char kind, String text, int place) {
        int number() {
            return Integer.parseInt(text);
        }
    }

    private record Step(String word, List<Integer> numbers, List<Step> steps) {
    }

    private record At(int view, int line, int place) {
    }

    private static final class State {
        int[][] book = new int[0][];
        int[][] floor = new int[0][];
        Set<Integer> kept = new HashSet<>();
        int space = 10;
        int rise = 10;
        int eye = 5;
        int step = 1;
        List<Integer> order = List.of(0, 1, 2);
        List<Step> way = List.of();

        State copy() {
            State s = new State();
            s.book = copyRows(book);
            s.floor = copyRows(floor);
            s.kept = new HashSet<>(kept);
            s.space = space;
            s.rise = rise;
            s.eye = eye;
            s.step = step;
            s.order = order;
            s.way = way;
            return s;
        }
    }

    private static int[][] copyRows(int[][] rows) {
        int[][] copy = new int[rows.length][];
        for (int i = 0; i < rows.length; i++) {
            copy[i] = rows[i].clone();
        }
        return copy;
    }

    private State st = new State();
    private final List<State> marks = new ArrayList<>();
    private final long[][] trays = new long[4][];
    private final int[] sorts = new int[4];
    private final List<Integer> tape = new ArrayList<>();
    private int faultKind = NONE;
    private int faultPlace = NONE;
    int status;
    BigInteger top = BigInteger.ZERO;
    BigInteger bottom = BigInteger.ONE;
    private int[] ended;
    private int[] leastMoves = new int[0];
    private int[] ran;
    private int[] ribsFound;
    private List<Integer> planksFound = new ArrayList<>();
    private int waste;

    // what a call answers: NONE and a STATUS, or a value and 0

    private interface Call {
        long get();
    }

    private long call(Call c) {
        try {
            long v = c.get();
            status = 0;
            return v;
        } catch (Refused r) {
            status = r.status;
            return NONE;
        }
    }

    private boolean yes(Call c) {
        call(c);
        return status == 0;
    }

    private static void need(boolean is, int status) {
        if (!is) {
            throw new Refused(status);
        }
    }

    private static boolean in(long v, long a, long b) {
        return a <= v && v <= b;
    }

    private long[] trayOf(int tray, int many) {
        need(trays[tray] != null, 2);
        need(trays[tray].length >= many, 3);
        return trays[tray];
    }

    // TRAYS

    boolean tray(int tray, int sort, int many) {
        return yes(() -> {
            need(in(tray, 0, 3) && in(sort, 0, 3) && in(many, 0, 60), 1);
            trays[tray] = new long[many];
            sorts[tray] = sort;
            return 1;
        });
    }

    boolean write(int tray, int place, long v) {
        return yes(() -> {
            need(in(tray, 0, 3), 1);
            long[] row = trayOf(tray, 0);
            need(in(place, 0, row.length - 1), 3);
            int bits = 8 << sorts[tray];
            row[place] = BigInteger.valueOf(v).shiftLeft(64 - bits).longValue() >> (64 - bits);
            return 1;
        });
    }

    long read(int tray, int place) {
        return call(() -> {
            need(in(tray, 0, 3), 1);
            long[] row = trayOf(tray, 0);
            need(in(place, 0, row.length - 1), 3);
            return row[place];
        });
    }

    boolean pour(int from, int place, int to, int at, int many) {
        return yes(() -> {
            need(in(from, 0, 3) && in(to, 0, 3) && place >= 0 && at >= 0 && many >= 0, 1);
            need(trays[from] != null && trays[to] != null, 2);
            need(sorts[from] == sorts[to], 8);
            need((long) place + many <= trays[from].length, 3);
            need((long) at + many <= trays[to].length, 3);
            long[] were = Arrays.copyOfRange(trays[from], place, place + many);
            for (int i = 0; i < many; i++) {
                trays[to][at + i] = were[i];
            }
            return 1;
        });
    }

    // texts

    int feed(int a, int b, int c, int d, int e) {
        if (tape.size() > 580) {
            return NONE;
        }
        for (int v : new int[] {a, b, c, d, e}) {
            for (int i = 3; i >= 0; i--) {
                tape.add(v >> 8 * i & 255);
            }
        }
        return tape.size();
    }

    private String cut(int n, int most) {
        need(n >= 0 && n <= tape.size() && n <= most, 1);
        StringBuilder text = new StringBuilder();
        for (int i = 0; i < n; i++) {
            text.append((char) (int) tape.get(i));
        }
        tape.clear();
        faultKind = 0;
        faultPlace = NONE;
        return text.toString();
    }

    private RuntimeException faulty(Fault f) {
        faultKind = f.kind;
        faultPlace = f.place;
        return new Refused(9);
    }

    int fault(int what) {
        return what == 0 ? faultKind : what == 1 ? faultPlace : NONE;
    }

    /** All TOKENS up to one that is none ('?') or the end ('.'). */
    private static List<Token> tokens(String text) {
        List<Token> all = new ArrayList<>();
        int at = 0;
        while (true) {
            while (at < text.length() && " \n".indexOf(text.charAt(at)) >= 0) {
                at++;
            }
            if (at == text.length()) {
                all.add(new Token('.', "", at));
                return all;
            }
            java.util.regex.Matcher m =
                    java.util.regex.Pattern.compile("[a-z]+|[0-9]+|;").matcher(text);
            m.region(at, text.length());
            if (!m.lookingAt() || (m.group().length() > 3 && Character.isDigit(text.charAt(at)))) {
                all.add(new Token('?', "", at));
                return all;
            }
            char c = text.charAt(at);
            char kind = c == ';' ? ';' : Character.isDigit(c) ? '0' : 'a';
            all.add(new Token(kind, m.group(), at));
            at = m.end();
        }
    }

    private static final class Parser {
        final List<Token> tokens;
        int next;

        Parser(String text) {
            tokens = tokens(text);
        }

        Token peek() {
            Token t = tokens.get(next);
            if (t.kind == '?') {
                throw new Fault(1, t.place);
            }
            return t;
        }

        Token take(char kind) {
            Token t = peek();
            if (t.kind != kind) {
                throw new Fault(2, t.place);
            }
            next++;
            return t;
        }

        int number(int low, int high) {
            Token t = take('0');
            if (!in(t.number(), low, high)) {
                throw new Fault(4, t.place);
            }
            return t.number();
        }

        int view() {
            Token t = take('a');
            int v = List.of("stations", "waters", "slants").indexOf(t.text);
            if (v < 0) {
                throw new Fault(2, t.place);
            }
            return v;
        }
    }

    int book(int n) {
        return (int) call(() -> {
            String text = cut(n, 600);
            try {
                State fresh = readBook(text);
                fresh.way = st.way;
                st = fresh;
            } catch (Fault f) {
                throw faulty(f);
            }
            return st.floor.length;
        });
    }

    private static State readBook(String text) {
        Parser p = new Parser(text);
        State s = new State();
        List<int[]> rows = new ArrayList<>();
        Set<String> told = new HashSet<>();
        while (p.peek().kind != '.') {
            Token word = p.take('a');
            switch (word.text) {
                case "row" -> rows.add(readRow(p, word, rows));
                case "keep" -> {
                    int station = p.number(0, rows.size() - 1);
                    int water = p.number(0, rows.get(0).length - 1);
                    if (!s.kept.add(8 * station + water)) {
                        throw new Fault(5, p.tokens.get(p.next - 1).place);
                    }
                }
                case "space", "rise", "eye", "step", "order" -> {
                    if (!told.add(word.text)) {
                        throw new Fault(5, word.place);
                    }
                    readSetting(p, word.text, s);
                }
                default -> throw new Fault(2, word.place);
            }
            if (!word.text.equals("row")) {
                p.take(';');
            }
        }
        s.book = rows.toArray(new int[0][]);
        s.floor = copyRows(s.book);
        return s;
    }

    private static void readSetting(Parser p, String word, State s) {
        switch (word) {
            case "space" -> s.space = p.number(1, 999);
            case "rise" -> s.rise = p.number(1, 999);
            case "eye" -> s.eye = p.number(0, 999);
            case "step" -> s.step = p.number(1, 99);
            default -> {
                List<Integer> order = new ArrayList<>();
                order.add(p.view());
                while (p.peek().kind == 'a') {
                    int place = p.peek().place;
                    order.add(p.view());
                    if (order.size() > 6) {
                        throw new Fault(6, place);
                    }
                }
                s.order = order;
            }
        }
    }

    private static int[] readRow(Parser p, Token word, List<int[]> rows) {
        if (rows.size() == 8) {
            throw new Fault(6, word.place);
        }
        List<Integer> row = new ArrayList<>();
        row.add(p.number(0, 999));
        while (p.peek().kind == '0') {
            int place = p.peek().place;
            if (rows.isEmpty() && row.size() == 6) {
                throw new Fault(6, place);
            }
            if (!rows.isEmpty() && row.size() == rows.get(0).length) {
                throw new Fault(3, place);
            }
            row.add(p.number(0, 999));
        }
        int place = p.take(';').place;
        if (rows.isEmpty() ? row.size() < 3 : row.size() < rows.get(0).length) {
            throw new Fault(3, place);
        }
        return row.stream().mapToInt(i -> i).toArray();
    }

    int way(int n) {
        return (int) call(() -> {
            String text = cut(n, 300);
            try {
                int[] count = new int[1];
                Parser p = new Parser(text);
                List<Step> steps = readSteps(p, 0, count);
                if (p.peek().kind != '.') {
                    throw new Fault(2, p.peek().place);
                }
                st.way = steps;
                return count[0];
            } catch (Fault f) {
                throw faulty(f);
            }
        });
    }

    private static List<Step> readSteps(Parser p, int depth, int[] count) {
        List<Step> steps = new ArrayList<>();
        while (p.peek().kind != '.' && !p.peek().text.equals("end")) {
            Token word = p.take('a');
            boolean nests = word.text.equals("until") || word.text.equals("when");
            boolean known = nests
                    || List.of("ease", "move", "keep", "free", "bend").contains(word.text);
            if (!known) {
                throw new Fault(2, word.place);
            }
            if (nests && depth == 3) {
                throw new Fault(5, word.place);
            }
            if (count[0] == 30) {
                throw new Fault(6, word.place);
            }
            count[0]++;
            List<Integer> numbers = readNumbers(p, word.text);
            p.take(';');
            List<Step> inner = List.of();
            if (nests) {
                inner = readSteps(p, depth + 1, count);
                p.take('a');
                p.take(';');
            }
            steps.add(new Step(word.text, numbers, inner));
        }
        return steps;
    }

    private static List<Integer> readNumbers(Parser p, String word) {
        List<Integer> numbers = new ArrayList<>();
        switch (word) {
            case "ease" -> numbers.add(p.number(1, 60));
            case "until" -> numbers.add(p.number(1, 9));
            case "when" -> { }
            case "bend" -> {
                numbers.add(p.view());
                numbers.add(p.number(0, 12));
                Token at = p.take('a');
                if (!at.text.equals("at")) {
                    throw new Fault(2, at.place);
                }
                List<Integer> ducks = new ArrayList<>();
                while (ducks.size() < 2 || p.peek().kind == '0') {
                    int duck = p.number(0, 7);
                    if (ducks.contains(duck)) {
                        throw new Fault(4, p.tokens.get(p.next - 1).place);
                    }
                    ducks.add(duck);
                }
                numbers.addAll(ducks);
            }
            default -> {
                numbers.add(p.number(0, 7));
                numbers.add(p.number(0, 5));
                if (word.equals("move")) {
                    numbers.add(p.number(0, 999));
                }
            }
        }
        return numbers;
    }

    // POINTS

    private int stations() {
        return st.floor.length;
    }

    private int waters() {
        return st.floor.length == 0 ? 0 : st.floor[0].length;
    }

    private List<Integer> points() {
        List<Integer> all = new ArrayList<>();
        for (int s = 0; s < stations(); s++) {
            for (int w = 0; w < waters(); w++) {
                all.add(8 * s + w);
            }
        }
        return all;
    }

    private boolean isPoint(long p) {
        return in(p, 0, 63) && points().contains((int) p);
    }

    private int at(int p) {
        return st.floor[p / 8][p % 8];
    }

    private void set(int p, int v) {
        st.floor[p / 8][p % 8] = v;
    }

    int told(int what) {
        return (int) call(() -> {
            need(in(what, 0, 6), 1);
            return List.of(stations(), waters(), st.space, st.rise, st.eye, st.step,
                    st.order.size()).get(what);
        });
    }

    int view(int k) {
        return (int) call(() -> {
            need(k >= 0, 1);
            need(k < st.order.size(), 6);
            return st.order.get(k);
        });
    }

    int point(int p, int what) {
        return (int) call(() -> {
            need(isPoint(p) && in(what, 0, 2), 1);
            return what == 0 ? at(p) : what == 1 ? st.book[p / 8][p % 8]
                    : st.kept.contains(p) ? 1 : 0;
        });
    }

    boolean move(int p, int breadth) {
        return yes(() -> {
            need(isPoint(p) && in(breadth, 0, 999), 1);
            need(!st.kept.contains(p), 7);
            set(p, breadth);
            return 1;
        });
    }

    boolean keep(int p, boolean is) {
        return yes(() -> {
            need(isPoint(p), 1);
            need(is ? st.kept.add(p) : st.kept.remove(p), 7);
            return 1;
        });
    }

    // LINES

    private List<Integer> line(int view, int line) {
        List<Integer> found = new ArrayList<>();
        for (int p : points()) {
            int s = p / 8;
            int w = p % 8;
            if (view == 0 ? s == line : view == 1 ? w == line
                    : w - s == line - (stations() - 1)) {
                found.add(p);
            }
        }
        return found;
    }

    private int lineCount(int view) {
        if (stations() == 0) {
            return 0;
        }
        return view == 0 ? stations() : view == 1 ? waters() : stations() + waters() - 1;
    }

    private List<Integer> needLine(int view, int line) {
        need(in(view, 0, 2) && in(line, 0, lineCount(view) - 1), 1);
        return line(view, line);
    }

    int lines(int view, int line) {
        return (int) call(() -> {
            need(in(view, 0, 2), 1);
            return line == NONE ? lineCount(view) : needLine(view, line).size();
        });
    }

    int lies(int view, int line, int place) {
        return (int) call(() -> {
            List<Integer> l = needLine(view, line);
            need(in(place, 0, l.size() - 1), 1);
            return l.get(place);
        });
    }

    private int bendOf(List<Integer> l, int place) {
        return at(l.get(place - 1)) + at(l.get(place + 1)) - 2 * at(l.get(place));
    }

    int bend(int view, int line, int place) {
        return (int) call(() -> {
            List<Integer> l = needLine(view, line);
            need(in(place, 0, l.size() - 1), 1);
            need(in(place, 1, l.size() - 2), 6);
            return bendOf(l, place);
        });
    }

    private List<At> unfairPlaces(int view, int line) {
        List<At> found = new ArrayList<>();
        List<Integer> l = line(view, line);
        for (int p = 2; p + 1 < l.size(); p++) {
            if (Math.abs(bendOf(l, p) - bendOf(l, p - 1)) > st.eye) {
                found.add(new At(view, line, p));
            }
        }
        return found;
    }

    private List<At> allUnfair() {
        List<At> found = new ArrayList<>();
        for (int view = 0; view < 3; view++) {
            for (int line = 0; line < lineCount(view); line++) {
                found.addAll(unfairPlaces(view, line));
            }
        }
        return found;
    }

    int unfair(int view, int line) {
        return (int) call(() -> {
            needLine(view, line);
            return unfairPlaces(view, line).size();
        });
    }

    int unfairAll() {
        return (int) call(() -> allUnfair().size());
    }

    int where(int k, int what) {
        return (int) call(() -> {
            need(k >= 0 && in(what, 0, 2), 1);
            List<At> all = allUnfair();
            need(k < all.size(), 6);
            At a = all.get(k);
            return what == 0 ? a.view : what == 1 ? a.line : a.place;
        });
    }

    long strain(int view, int line) {
        return call(() -> {
            List<Integer> l = needLine(view, line);
            long sum = 0;
            for (int p = 1; p + 1 < l.size(); p++) {
                sum += (long) bendOf(l, p) * bendOf(l, p);
            }
            return sum;
        });
    }

    private long tell(BigInteger t, BigInteger b) {
        BigInteger g = t.gcd(b).multiply(BigInteger.valueOf(b.signum()));
        top = t.divide(g);
        bottom = b.divide(g);
        return 1;
    }

    private long tell(long t, long b) {
        return tell(BigInteger.valueOf(t), BigInteger.valueOf(b));
    }

    /** Cramer's rule on the equations of the free PLACES alone: {top, bottom} of each PLACE. */
    private BigInteger[][] lathOn(List<Integer> l, Set<Integer> ducks) {
        int n = l.size();
        BigInteger[][] found = new BigInteger[n][];
        List<Integer> free = new ArrayList<>();
        for (int p = 0; p < n; p++) {
            if (ducks.contains(p)) {
                found[p] = new BigInteger[] {BigInteger.valueOf(at(l.get(p))), BigInteger.ONE};
            } else {
                free.add(p);
            }
        }
        int m = free.size();
        long[][] a = new long[m][m];
        long[] b = new long[m];
        for (int bend = 1; bend + 1 < n; bend++) {
            long[] c = new long[n];
            c[bend - 1] = 1;
            c[bend] = -2;
            c[bend + 1] = 1;
            long known = 0;
            for (int duck : ducks) {
                known += c[duck] * at(l.get(duck));
            }
            for (int i = 0; i < m; i++) {
                for (int j = 0; j < m; j++) {
                    a[i][j] += c[free.get(i)] * c[free.get(j)];
                }
                b[i] -= c[free.get(i)] * known;
            }
        }
        BigInteger det = determinant(a);
        for (int i = 0; i < m; i++) {
            long[][] swapped = copyOf(a);
            for (int r = 0; r < m; r++) {
                swapped[r][i] = b[r];
            }
            found[free.get(i)] = new BigInteger[] {determinant(swapped), det};
        }
        return found;
    }

    private static long[][] copyOf(long[][] a) {
        long[][] copy = new long[a.length][];
        for (int i = 0; i < a.length; i++) {
            copy[i] = a[i].clone();
        }
        return copy;
    }

    private static BigInteger determinant(long[][] a) {
        int n = a.length;
        if (n == 0) {
            return BigInteger.ONE;
        }
        BigInteger sum = BigInteger.ZERO;
        for (int j = 0; j < n; j++) {
            if (a[0][j] != 0) {
                long[][] minor = new long[n - 1][n - 1];
                for (int r = 1; r < n; r++) {
                    for (int c = 0, to = 0; c < n; c++) {
                        if (c != j) {
                            minor[r - 1][to++] = a[r][c];
                        }
                    }
                }
                BigInteger part = determinant(minor).multiply(BigInteger.valueOf(a[0][j]));
                sum = j % 2 == 0 ? sum.add(part) : sum.subtract(part);
            }
        }
        return sum;
    }

    boolean lath(int view, int line, int ducks, int place) {
        return yes(() -> {
            List<Integer> l = needLine(view, line);
            need(in(place, 0, l.size() - 1), 1);
            Set<Integer> set = new HashSet<>();
            for (int i = 0; i < 32; i++) {
                if ((ducks >>> i & 1) == 1) {
                    need(i < l.size(), 1);
                    set.add(i);
                }
            }
            need(set.size() >= 2, 6);
            BigInteger[] f = lathOn(l, set)[place];
            return tell(f[0], f[1]);
        });
    }

    // ROUNDS

    private boolean oneRound() {
        boolean moved = false;
        for (int view : st.order) {
            for (int line = 0; line < lineCount(view); line++) {
                List<Integer> l = line(view, line);
                for (int p = 2; p + 2 < l.size(); p++) {
                    if (st.kept.contains(l.get(p))) {
                        continue;
                    }
                    int sum = 4 * at(l.get(p - 1)) + 4 * at(l.get(p + 1)) - at(l.get(p - 2))
                            - at(l.get(p + 2)) + 3;
                    int wish = (int) Math.floor(sum / 6.0);
                    int now = at(l.get(p));
                    int then = wish > now ? Math.min(wish, now + st.step)
                            : Math.max(wish, now - st.step);
                    then = then < 0 ? 0 : then > 999 ? 999 : then;
                    moved |= then != now;
                    set(l.get(p), then);
                }
            }
        }
        return moved;
    }

    /** How many, how they ended, ROUNDS ahead of a RING, in it. */
    private int[] doRounds(int most) {
        List<int[][]> were = new ArrayList<>();
        for (int done = 1; done <= most; done++) {
            were.add(copyRows(st.floor));
            if (!oneRound()) {
                return new int[] {done, 1, NONE, NONE};
            }
            for (int i = 0; i < were.size(); i++) {
                if (Arrays.deepEquals(were.get(i), st.floor)) {
                    return new int[] {done, 2, i, done - i};
                }
            }
        }
        return new int[] {most, 0, NONE, NONE};
    }

    int rounds(int most) {
        return (int) call(() -> {
            need(in(most, 1, 60), 1);
            ended = doRounds(most);
            return ended[0];
        });
    }

    int ended(int what) {
        return (int) call(() -> {
            need(in(what, 0, 2), 1);
            need(ended != null && (what == 0 || ended[1] == 2), 6);
            return ended[what + 1];
        });
    }

    int least(int tray, int many, int by) {
        return (int) call(() -> {
            need(in(tray, 0, 3) && in(many, 1, 5) && in(by, 1, 3), 1);
            long[] row = trayOf(tray, many);
            List<Long> chosen = new ArrayList<>();
            for (int i = 0; i < many; i++) {
                need(isPoint(row[i]) && !chosen.contains(row[i])
                        && !st.kept.contains((int) row[i]), 5);
                chosen.add(row[i]);
            }
            int[] best = null;
            int[] bestKey = null;
            int[] moves = new int[many];
            int all = (int) Math.pow(2 * by + 1, many);
            for (int code = 0; code < all; code++) {
                int rest = code;
                for (int i = many - 1; i >= 0; i--) {
                    moves[i] = rest % (2 * by + 1) - by;
                    rest /= 2 * by + 1;
                }
                int[] key = new int[2];
                for (int m : moves) {
                    key[0] += Math.abs(m);
                    key[1] += m == 0 ? 0 : 1;
                }
                boolean better = bestKey == null || Arrays.compare(key, bestKey) < 0;
                if (better && isFairWith(chosen, moves)) {
                    best = moves.clone();
                    bestKey = key;
                }
            }
            need(best != null, 6);
            leastMoves = best;
            return bestKey[0];
        });
    }

    private boolean isFairWith(List<Long> chosen, int[] moves) {
        int[][] were = copyRows(st.floor);
        boolean fits = true;
        for (int i = 0; i < moves.length; i++) {
            int p = (int) (long) chosen.get(i);
            set(p, at(p) + moves[i]);
            fits &= in(at(p), 0, 999);
        }
        fits = fits && allUnfair().isEmpty();
        st.floor = were;
        return fits;
    }

    int leastMove(int k) {
        return (int) call(() -> {
            need(k >= 0, 1);
            need(k < leastMoves.length, 6);
            return leastMoves[k];
        });
    }

    private List<int[]> allSlips() {
        List<int[]> found = new ArrayList<>();
        for (int p : points()) {
            if (!st.kept.contains(p)) {
                int was = at(p);
                for (int v = 0; v <= 999; v++) {
                    if (isSlip(String.format("%03d", was), String.format("%03d", v))) {
                        set(p, v);
                        if (allUnfair().isEmpty()) {
                            found.add(new int[] {p, v});
                        }
                    }
                }
                set(p, was);
            }
        }
        return found;
    }

    private static boolean isSlip(String was, String v) {
        int unlike = 0;
        for (int i = 0; i < 3; i++) {
            unlike += was.charAt(i) == v.charAt(i) ? 0 : 1;
        }
        String front = "" + was.charAt(1) + was.charAt(0) + was.charAt(2);
        String back = "" + was.charAt(0) + was.charAt(2) + was.charAt(1);
        return unlike == 1 || (unlike == 2 && (v.equals(front) || v.equals(back)));
    }

    int slips() {
        return (int) call(() -> allSlips().size());
    }

    int slip(int k, int what) {
        return (int) call(() -> {
            need(k >= 0 && in(what, 0, 1), 1);
            List<int[]> all = allSlips();
            need(k < all.size(), 6);
            return all.get(k)[what];
        });
    }

    // WAYS

    int run() {
        return (int) call(() -> {
            int[] tally = new int[3];
            doSteps(st.way, tally);
            ran = new int[] {tally[1], tally[2]};
            return tally[0];
        });
    }

    /** tally: STEPS done, ROUNDS done, 1 if it is over. */
    private void doSteps(List<Step> steps, int[] tally) {
        for (Step step : steps) {
            if (tally[2] == 1) {
                return;
            }
            if (tally[0] == 100) {
                tally[2] = 1;
                return;
            }
            tally[0]++;
            List<Integer> n = step.numbers;
            switch (step.word) {
                case "ease" -> tally[1] += doRounds(n.get(0))[0];
                case "bend" -> doBend(n);
                case "until", "when" -> {
                    int times = step.word.equals("when") ? 1 : n.get(0);
                    for (int i = 0; i < times && tally[2] == 0; i++) {
                        if (!allUnfair().isEmpty()) {
                            doSteps(step.steps, tally);
                        }
                    }
                }
                default -> {
                    int p = 8 * n.get(0) + n.get(1);
                    if (isPoint(p)) {
                        if (step.word.equals("keep")) {
                            st.kept.add(p);
                        } else if (step.word.equals("free")) {
                            st.kept.remove(p);
                        } else if (!st.kept.contains(p)) {
                            set(p, n.get(2));
                        }
                    }
                }
            }
        }
    }

    private void doBend(List<Integer> n) {
        if (n.get(1) >= lineCount(n.get(0))) {
            return;
        }
        List<Integer> l = line(n.get(0), n.get(1));
        Set<Integer> ducks = new HashSet<>(n.subList(2, n.size()));
        for (int duck : ducks) {
            if (duck >= l.size()) {
                return;
            }
        }
        BigInteger[][] f = lathOn(l, ducks);
        for (int p = 0; p < l.size(); p++) {
            if (!ducks.contains(p) && !st.kept.contains(l.get(p))) {
                java.math.BigDecimal half = new java.math.BigDecimal(f[p][0].shiftLeft(1)
                        .add(f[p][1]));
                java.math.BigDecimal v = half.divide(new java.math.BigDecimal(
                        f[p][1].shiftLeft(1)), 0, java.math.RoundingMode.FLOOR);
                set(l.get(p), Math.max(0, Math.min(999, v.intValueExact())));
            }
        }
    }

    int ran(int what) {
        return (int) call(() -> {
            need(in(what, 0, 1), 1);
            need(ran != null, 6);
            return ran[what];
        });
    }

    int given(int what) {
        return (int) call(() -> {
            need(in(what, 0, 2), 1);
            int sum = 0;
            int most = 0;
            int many = 0;
            for (int p : points()) {
                int d = Math.abs(at(p) - st.book[p / 8][p % 8]);
                sum += d;
                most = Math.max(most, d);
                many += d > 0 ? 1 : 0;
            }
            return what == 0 ? sum : what == 1 ? most : many;
        });
    }

    private int crookOf(int s) {
        List<Integer> l = line(0, s);
        int sum = 0;
        for (int p = 1; p + 1 < l.size(); p++) {
            sum += Math.abs(bendOf(l, p));
        }
        return sum;
    }

    int crook(int s) {
        return (int) call(() -> {
            need(in(s, 0, stations() - 1), 1);
            return crookOf(s);
        });
    }

    int ribs(int tray, int many) {
        return (int) call(() -> {
            need(in(tray, 0, 3) && in(many, 1, 10), 1);
            long[] row = trayOf(tray, many);
            for (int i = 0; i < many; i++) {
                need(in(row[i], 0, 9999), 5);
            }
            need(many >= stations() && stations() > 0, 6);
            long[] crooks = new long[stations()];
            for (int s = 0; s < stations(); s++) {
                crooks[s] = crookOf(s);
            }
            int[] best = new int[stations()];
            long[] least = {Long.MAX_VALUE};
            choose(crooks, Arrays.copyOf(row, many), new int[stations()], 0, 0, least, best);
            ribsFound = best;
            return least[0];
        });
    }

    private void choose(long[] crooks, long[] trees, int[] chosen, int s, long sum, long[] least,
            int[] best) {
        if (sum >= least[0]) {
            return;
        }
        if (s == crooks.length) {
            least[0] = sum;
            System.arraycopy(chosen, 0, best, 0, s);
            return;
        }
        for (int t = 0; t < trees.length; t++) {
            boolean taken = false;
            for (int i = 0; i < s; i++) {
                taken |= chosen[i] == t;
            }
            if (!taken) {
                chosen[s] = t;
                choose(crooks, trees, chosen, s + 1, sum + Math.abs(crooks[s] - trees[t]), least,
                        best);
            }
        }
    }

    int rib(int s) {
        return (int) call(() -> {
            need(ribsFound != null, 6);
            need(in(s, 0, ribsFound.length - 1), 1);
            return ribsFound[s];
        });
    }

    // BEVELS, PLANKS

    boolean bevel(int p) {
        return yes(() -> {
            need(isPoint(p), 1);
            need(isPoint(p - 8) && isPoint(p + 8), 6);
            return tell(at(p + 8) - at(p - 8), 2 * st.space);
        });
    }

    private static int root(long a, long b) {
        return BigInteger.valueOf(a * a + b * b).sqrt().intValue();
    }

    private int widthOf(int strip, int s) {
        return root(st.rise, st.floor[s][strip + 1] - st.floor[s][strip]);
    }

    int width(int strip, int s) {
        return (int) call(() -> {
            need(in(strip, 0, waters() - 2) && in(s, 0, stations() - 1), 1);
            return widthOf(strip, s);
        });
    }

    private int lengthOf(int w) {
        int sum = 0;
        for (int s = 0; s + 1 < stations(); s++) {
            sum += root(st.space, st.floor[s + 1][w] - st.floor[s][w]);
        }
        return sum;
    }

    int length(int w) {
        return (int) call(() -> {
            need(in(w, 0, waters() - 1), 1);
            return lengthOf(w);
        });
    }

    int banana(int strip) {
        return (int) call(() -> {
            need(in(strip, 0, waters() - 2), 1);
            return lengthOf(strip + 1) - lengthOf(strip);
        });
    }

    int planks(int tree) {
        return (int) call(() -> {
            need(in(tree, 1, 9999), 1);
            List<List<Integer>> ways = new ArrayList<>();
            layPlanks(tree, 0, new ArrayList<>(), ways);
            need(!ways.isEmpty() && waters() > 1, 6);
            // Lesser highest STRIPS come first, so a later one must be better to be taken.
            List<Integer> best = ways.get(0);
            for (List<Integer> w : ways) {
                if (w.size() < best.size()
                        || (w.size() == best.size() && wasteOf(w) < wasteOf(best))) {
                    best = w;
                }
            }
            planksFound = best;
            waste = wasteOf(best);
            return best.size();
        });
    }

    private int[] plankWidths(int from, int to) {
        int[] wide = new int[stations()];
        for (int s = 0; s < stations(); s++) {
            for (int strip = from; strip <= to; strip++) {
                wide[s] += widthOf(strip, s);
            }
        }
        return wide;
    }

    private void layPlanks(int tree, int from, List<Integer> tops, List<List<Integer>> ways) {
        if (from >= waters() - 1) {
            ways.add(new ArrayList<>(tops));
            return;
        }
        for (int to = from; to < waters() - 1; to++) {
            if (Arrays.stream(plankWidths(from, to)).max().orElse(0) <= tree) {
                tops.add(to);
                layPlanks(tree, to + 1, tops, ways);
                tops.remove(tops.size() - 1);
            }
        }
    }

    private int wasteOf(List<Integer> tops) {
        int sum = 0;
        int from = 0;
        for (int to : tops) {
            int[] wide = plankWidths(from, to);
            int most = Arrays.stream(wide).max().orElse(0);
            for (int w : wide) {
                sum += most - w;
            }
            from = to + 1;
        }
        return sum;
    }

    int plank(int k) {
        return (int) call(() -> {
            need(k >= NONE, 1);
            need(!planksFound.isEmpty() && k < planksFound.size(), 6);
            return k == NONE ? waste : planksFound.get(k);
        });
    }

    // WET, BOATS

    int wet(int tray, int many, int what) {
        return (int) call(() -> {
            need(in(tray, 0, 3) && in(many, 1, 20) && in(what, 0, 5), 1);
            long[] row = trayOf(tray, 3 * many);
            for (int i = 0; i < many; i++) {
                need(in(row[3 * i], 0, 9999) && in(row[3 * i + 1], 0, 19999)
                        && in(row[3 * i + 2], 0, 1), 5);
            }
            List<Integer> rates = new ArrayList<>();
            for (int rate = -50; rate <= 50; rate++) {
                boolean fits = true;
                for (int i = 0; i < many; i++) {
                    long grown = Math.abs(row[3 * i] * rate) / 1000;
                    long due = row[3 * i] + (rate < 0 ? -grown : grown);
                    fits &= row[3 * i + 2] != what / 3 || in(row[3 * i + 1], due - 1, due + 1);
                }
                if (fits) {
                    rates.add(rate);
                }
            }
            if (what % 3 == 0) {
                return rates.size();
            }
            need(!rates.isEmpty(), 6);
            return what % 3 == 1 ? rates.get(0) : rates.get(rates.size() - 1);
        });
    }

    private int boatOf(int seed, int hand, int k, int point) {
        long s = seed + 101 * k;
        for (int p : points()) {
            s = (s * 3989 + 7919) % 65536;
            if (p == point) {
                long v = at(p) + s / 8 % (2 * hand + 1) - hand;
                return (int) Math.max(0, Math.min(999, v));
            }
        }
        throw new IllegalStateException();
    }

    int boat(int seed, int hand, int k, int point) {
        return (int) call(() -> {
            need(in(seed, 0, 9999) && in(hand, 0, 20) && in(k, 0, 39) && isPoint(point), 1);
            return boatOf(seed, hand, k, point);
        });
    }

    int apart(int seed, int hand, int n, int what) {
        return (int) call(() -> {
            need(in(seed, 0, 9999) && in(hand, 0, 20) && in(n, 2, 40) && in(what, 0, 1), 1);
            need(stations() > 0, 6);
            int most = -1;
            int where = -1;
            for (int p : points()) {
                int[] all = new int[n];
                for (int k = 0; k < n; k++) {
                    all[k] = boatOf(seed, hand, k, p);
                }
                Arrays.sort(all);
                if (all[n - 1] - all[0] > most) {
                    most = all[n - 1] - all[0];
                    where = p;
                }
            }
            return what == 0 ? most : where;
        });
    }

    int built(int seed, int hand, int n, int tray, int many, int slack, int what) {
        return (int) call(() -> {
            need(in(seed, 0, 9999) && in(hand, 0, 20) && in(n, 1, 40) && in(tray, 0, 3)
                    && in(many, 1, 20) && in(slack, 0, 99) && in(what, 0, 1), 1);
            long[] row = trayOf(tray, 2 * many);
            for (int i = 0; i < many; i++) {
                need(isPoint(row[2 * i]) && in(row[2 * i + 1], 0, 999), 5);
            }
            List<Integer> fitting = new ArrayList<>();
            for (int k = 0; k < n; k++) {
                boolean fits = true;
                for (int i = 0; i < many; i++) {
                    fits &= Math.abs(boatOf(seed, hand, k, (int) row[2 * i]) - row[2 * i + 1])
                            <= slack;
                }
                if (fits) {
                    fitting.add(k);
                }
            }
            need(what == 0 || !fitting.isEmpty(), 6);
            return what == 0 ? fitting.size() : fitting.get(0);
        });
    }

    // AFLOAT

    private long area(int s, int w) {
        long sum = 0;
        for (int i = 0; i < w; i++) {
            sum += st.floor[s][i] + st.floor[s][i + 1];
        }
        return sum;
    }

    private long twice(int w) {
        long sum = 0;
        for (int s = 0; s + 1 < stations(); s++) {
            sum += area(s, w) + area(s + 1, w);
        }
        return sum * st.space * st.rise;
    }

    boolean volume(int w) {
        return yes(() -> {
            need(in(w, 1, waters() - 1), 1);
            return tell(twice(w), 2);
        });
    }

    boolean centre(int w) {
        return yes(() -> {
            need(in(w, 1, waters() - 1), 1);
            long over = 0;
            long under = 0;
            for (int s = 0; s + 1 < stations(); s++) {
                over += area(s, w) * s + area(s + 1, w) * (s + 1);
                under += area(s, w) + area(s + 1, w);
            }
            need(under != 0, 6);
            return tell(over * st.space, under);
        });
    }

    boolean carried(int w, int p, int breadth) {
        return yes(() -> {
            need(in(w, 1, waters() - 1) && isPoint(p) && in(breadth, 0, 999), 1);
            long now = twice(w);
            int was = at(p);
            set(p, breadth);
            long then = twice(w);
            set(p, was);
            return tell(then - now, 2);
        });
    }

    // MARKS

    int mark() {
        return (int) call(() -> {
            need(marks.size() < 3, 4);
            marks.add(st.copy());
            return marks.size();
        });
    }

    int back() {
        return (int) call(() -> {
            need(!marks.isEmpty(), 6);
            st = marks.remove(marks.size() - 1);
            return marks.size();
        });
    }
}
