/** A floor on which a ship is drawn three times over: from the ends, from above and slanting. */
public final class FairLines {

    public static final int NONE = -1;

    private static final int FINE = 0;
    private static final int IMPOSSIBLE = 1;
    private static final int MISSING = 2;
    private static final int TOO_FEW = 3;
    private static final int TOO_MANY = 4;
    private static final int IMPOSSIBLE_IN_TRAY = 5;
    private static final int NONE_SUCH = 6;
    private static final int SO_ALREADY = 7;
    private static final int UNLIKE_SORTS = 8;
    private static final int FAULTY = 9;

    private static final int MOST_BREADTH = 999;
    private static final int MOST_ROUNDS = 60;
    private static final int MOST_MARKS = 3;
    private static final int MOST_RATE = 50;

    /** POINTS are numbered 8 times STATION and WATER: rows of so many hold any of them. */
    private static final int POINT_ROOM = 64;

    /** Above any sum of moves, and of differences between crooks. */
    private static final int BEYOND_ANY = 1 << 30;

    private int status;
    private long top;
    private long bottom = 1;
    private final Trays trays = new Trays();
    private final Tape tape = new Tape();
    private final Sheet sheet = new Sheet();
    private final Way way = new Way();
    private final BookReader bookReader = new BookReader(tape);
    private final WayReader wayReader = new WayReader(tape);
    private final Rounds sweeps = new Rounds();
    private final Lath spline = new Lath();
    private final Mender mender = new Mender();
    private final Runner runner = new Runner();
    private final Yard yard = new Yard();
    private final Sheet[] markedSheets = {new Sheet(), new Sheet(), new Sheet()};
    private final Way[] markedWays = {new Way(), new Way(), new Way()};
    private int marks;

    public FairLines() {
    }

    public int status() {
        return status;
    }

    public long top() {
        return top;
    }

    public long bottom() {
        return bottom;
    }

    // ---- TRAYS

    public boolean tray(int tray, int sort, int many) {
        if (!trays.isTray(tray) || !isWithin(sort, 0, 3) || !isWithin(many, 0, Trays.ROOM)) {
            return no(IMPOSSIBLE);
        }
        trays.lay(tray, sort, many);
        return yes();
    }

    public boolean write(int tray, int place, long v) {
        int lack = trays.lackOfPlace(tray, place);
        if (lack != FINE) {
            return no(lack);
        }
        trays.put(tray, place, v);
        return yes();
    }

    public long read(int tray, int place) {
        int lack = trays.lackOfPlace(tray, place);
        if (lack != FINE) {
            return none(lack);
        }
        status = FINE;
        return trays.at(tray, place);
    }

    public boolean pour(int from, int place, int to, int at, int many) {
        if (!trays.isTray(from) || !trays.isTray(to) || place < 0 || at < 0 || many < 0) {
            return no(IMPOSSIBLE);
        }
        if (trays.isMissing(from) || trays.isMissing(to)) {
            return no(MISSING);
        }
        if (!trays.areAlike(from, to)) {
            return no(UNLIKE_SORTS);
        }
        if (!trays.hasRun(from, place, many) || !trays.hasRun(to, at, many)) {
            return no(TOO_FEW);
        }
        trays.copyRun(from, place, to, at, many);
        return yes();
    }

    // ---- the BOOK, POINTS

    public int feed(int a, int b, int c, int d, int e) {
        if (tape.size + 20 > Tape.ROOM) {
            return NONE;
        }
        tape.append(a);
        tape.append(b);
        tape.append(c);
        tape.append(d);
        tape.append(e);
        return tape.size;
    }

    public int book(int n) {
        if (n < 0 || n > tape.size) {
            return none(IMPOSSIBLE);
        }
        boolean taken = bookReader.readText(n);
        tape.size = 0;
        if (!taken) {
            return none(FAULTY);
        }
        sheet.copyFrom(bookReader.sheet);
        return answer(sheet.stations);
    }

    public int fault(int what) {
        if (what == 0) {
            return tape.fault;
        }
        return what == 1 ? tape.faultPlace : NONE;
    }

    public int told(int what) {
        switch (what) {
            case 0:
                return answer(sheet.stations);
            case 1:
                return answer(sheet.waters);
            case 2:
                return answer(sheet.space);
            case 3:
                return answer(sheet.rise);
            case 4:
                return answer(sheet.eye);
            case 5:
                return answer(sheet.step);
            case 6:
                return answer(sheet.views);
            default:
                return none(IMPOSSIBLE);
        }
    }

    public int view(int k) {
        if (k < 0) {
            return none(IMPOSSIBLE);
        }
        if (k >= sheet.views || k >= sheet.order.length) {
            return none(NONE_SUCH);
        }
        return answer(sheet.order[k]);
    }

    public int point(int point, int what) {
        if (!sheet.hasPoint(point) || !isWithin(what, 0, 2)) {
            return none(IMPOSSIBLE);
        }
        if (what == 0) {
            return answer(sheet.at(point));
        }
        if (what == 1) {
            return answer(sheet.toldAt(point));
        }
        return answer(sheet.isKept(point) ? 1 : 0);
    }

    public boolean move(int point, int breadth) {
        if (!sheet.hasPoint(point) || !isWithin(breadth, 0, MOST_BREADTH)) {
            return no(IMPOSSIBLE);
        }
        if (sheet.isKept(point)) {
            return no(SO_ALREADY);
        }
        sheet.put(point, breadth);
        return yes();
    }

    public boolean keep(int point, boolean is) {
        if (!sheet.hasPoint(point)) {
            return no(IMPOSSIBLE);
        }
        if (sheet.isKept(point) == is) {
            return no(SO_ALREADY);
        }
        sheet.setKept(point, is);
        return yes();
    }

    // ---- LINES, LATHS

    public int lines(int view, int line) {
        if (!sheet.isView(view)) {
            return none(IMPOSSIBLE);
        }
        if (line == NONE) {
            return answer(sheet.linesOf(view));
        }
        if (!sheet.hasLine(view, line)) {
            return none(IMPOSSIBLE);
        }
        return answer(sheet.placesOf(view, line));
    }

    public int lies(int view, int line, int place) {
        if (!sheet.hasPlace(view, line, place)) {
            return none(IMPOSSIBLE);
        }
        return answer(sheet.pointAt(view, line, place));
    }

    public int bend(int view, int line, int place) {
        if (!sheet.hasPlace(view, line, place)) {
            return none(IMPOSSIBLE);
        }
        if (place == 0 || place == sheet.placesOf(view, line) - 1) {
            return none(NONE_SUCH);
        }
        return answer(sheet.bendAt(sheet.pointAt(view, line, place), sheet.strideOf(view)));
    }

    public int unfair(int view, int line) {
        if (!sheet.hasLine(view, line)) {
            return none(IMPOSSIBLE);
        }
        return answer(sheet.unfairOn(view, line));
    }

    public int unfairAll() {
        return answer(sheet.unfairBeyond(0));
    }

    public int where(int k, int what) {
        if (k < 0 || !isWithin(what, 0, 2)) {
            return none(IMPOSSIBLE);
        }
        if (!sheet.findUnfair(k)) {
            return none(NONE_SUCH);
        }
        if (what == 0) {
            return answer(sheet.foundView);
        }
        return answer(what == 1 ? sheet.foundLine : sheet.foundPlace);
    }

    public long strain(int view, int line) {
        if (!sheet.hasLine(view, line)) {
            return none(IMPOSSIBLE);
        }
        status = FINE;
        return sheet.strainOn(view, line);
    }

    public boolean lath(int view, int line, int ducks, int place) {
        if (!sheet.hasPlace(view, line, place) || !sheet.hasDucks(view, line, ducks)) {
            return no(IMPOSSIBLE);
        }
        if (Integer.bitCount(ducks) < 2) {
            return no(NONE_SUCH);
        }
        spline.lay(sheet, view, line, ducks);
        return tell(spline.topAt(place), spline.bottom);
    }

    // ---- ROUNDS, LEAST, SLIPS

    public int rounds(int most) {
        if (!isWithin(most, 1, MOST_ROUNDS)) {
            return none(IMPOSSIBLE);
        }
        int done = sweeps.go(sheet, most);
        sweeps.remember();
        return answer(done);
    }

    public int ended(int what) {
        if (!isWithin(what, 0, 2)) {
            return none(IMPOSSIBLE);
        }
        if (sweeps.told == NONE || (what != 0 && sweeps.told != Rounds.RING)) {
            return none(NONE_SUCH);
        }
        if (what == 0) {
            return answer(sweeps.told);
        }
        return answer(what == 1 ? sweeps.toldAhead : sweeps.toldWithin);
    }

    public int least(int tray, int many, int by) {
        if (!trays.isTray(tray) || !isWithin(many, 1, Mender.MOST_POINTS) || !isWithin(by, 1, 3)) {
            return none(IMPOSSIBLE);
        }
        int lack = trays.lackOf(tray, many);
        if (lack != FINE) {
            return none(lack);
        }
        if (!mender.choose(sheet, trays, tray, many)) {
            return none(IMPOSSIBLE_IN_TRAY);
        }
        if (!mender.findLeast(sheet, by)) {
            return none(NONE_SUCH);
        }
        return answer(mender.bestSum);
    }

    public int leastMove(int k) {
        if (k < 0) {
            return none(IMPOSSIBLE);
        }
        if (k >= mender.toldMany || k >= mender.toldMoves.length) {
            return none(NONE_SUCH);
        }
        return answer(mender.toldMoves[k]);
    }

    public int slips() {
        return answer(mender.countSlips(sheet, NONE));
    }

    public int slip(int k, int what) {
        if (k < 0 || !isWithin(what, 0, 1)) {
            return none(IMPOSSIBLE);
        }
        if (mender.countSlips(sheet, k) <= k) {
            return none(NONE_SUCH);
        }
        return answer(what == 0 ? mender.slipPoint : mender.slipBreadth);
    }

    // ---- WAYS, RIBS

    public int way(int n) {
        if (n < 0 || n > tape.size || n > WayReader.MOST_BYTES) {
            return none(IMPOSSIBLE);
        }
        boolean taken = wayReader.readText(n);
        tape.size = 0;
        if (!taken) {
            return none(FAULTY);
        }
        way.copyFrom(wayReader.way);
        return answer(way.steps);
    }

    public int run() {
        return answer(runner.go(way, sheet, spline, sweeps));
    }

    public int ran(int what) {
        if (!isWithin(what, 0, 1)) {
            return none(IMPOSSIBLE);
        }
        if (!runner.hasRun) {
            return none(NONE_SUCH);
        }
        if (what == 0) {
            return answer(runner.rounds);
        }
        return answer(runner.isOver ? 1 : 0);
    }

    public int given(int what) {
        switch (what) {
            case 0:
                return answer(sheet.givenSum());
            case 1:
                return answer(sheet.givenMost());
            case 2:
                return answer(sheet.givenMany());
            default:
                return none(IMPOSSIBLE);
        }
    }

    public int crook(int station) {
        if (!sheet.hasStation(station)) {
            return none(IMPOSSIBLE);
        }
        return answer(sheet.crookOf(station));
    }

    public int ribs(int tray, int many) {
        if (!trays.isTray(tray) || !isWithin(many, 1, Yard.MOST_TREES)) {
            return none(IMPOSSIBLE);
        }
        int lack = trays.lackOf(tray, many);
        if (lack != FINE) {
            return none(lack);
        }
        if (!yard.chooseTrees(trays, tray, many)) {
            return none(IMPOSSIBLE_IN_TRAY);
        }
        if (many < sheet.stations || sheet.stations == 0) {
            return none(NONE_SUCH);
        }
        return answer(yard.matchRibs(sheet, many));
    }

    public int rib(int station) {
        if (yard.ribStations == 0) {
            return none(NONE_SUCH);
        }
        if (!isWithin(station, 0, yard.ribStations - 1) || station >= yard.ribs.length) {
            return none(IMPOSSIBLE);
        }
        return answer(yard.ribs[station]);
    }

    // ---- BEVELS, PLANKS

    public boolean bevel(int point) {
        if (!sheet.hasPoint(point)) {
            return no(IMPOSSIBLE);
        }
        int station = point >> 3;
        if (station == 0 || station == sheet.stations - 1) {
            return no(NONE_SUCH);
        }
        return tell(sheet.at(point + 8) - sheet.at(point - 8), 2L * sheet.space);
    }

    public int width(int strip, int station) {
        if (!sheet.hasStrip(strip) || !sheet.hasStation(station)) {
            return none(IMPOSSIBLE);
        }
        return answer(sheet.widthOf(strip, station));
    }

    public int length(int water) {
        if (!sheet.hasWater(water)) {
            return none(IMPOSSIBLE);
        }
        return answer(sheet.lengthOf(water));
    }

    public int banana(int strip) {
        if (!sheet.hasStrip(strip)) {
            return none(IMPOSSIBLE);
        }
        return answer(sheet.lengthOf(strip + 1) - sheet.lengthOf(strip));
    }

    public int planks(int tree) {
        if (!isWithin(tree, 1, 9999)) {
            return none(IMPOSSIBLE);
        }
        if (!yard.joinPlanks(sheet, tree)) {
            return none(NONE_SUCH);
        }
        return answer(yard.plankMany);
    }

    public int plank(int k) {
        if (k < NONE) {
            return none(IMPOSSIBLE);
        }
        if (yard.plankMany == 0 || k >= yard.plankMany) {
            return none(NONE_SUCH);
        }
        return answer(k == NONE ? yard.plankWaste : yard.highestStripOf(k));
    }

    // ---- WET, BOATS

    public int wet(int tray, int many, int what) {
        if (!trays.isTray(tray) || !isWithin(many, 1, 20) || !isWithin(what, 0, 5)) {
            return none(IMPOSSIBLE);
        }
        int lack = trays.lackOf(tray, 3 * many);
        if (lack != FINE) {
            return none(lack);
        }
        if (!areSquares(tray, many)) {
            return none(IMPOSSIBLE_IN_TRAY);
        }
        return tellRates(tray, many, what / 3, what % 3);
    }

    public int boat(int seed, int hand, int k, int point) {
        if (!isHand(seed, hand) || !isWithin(k, 0, Yard.MOST_BOATS - 1) || !sheet.hasPoint(point)) {
            return none(IMPOSSIBLE);
        }
        yard.buildBoat(sheet, seed, hand, k);
        return answer(yard.boatAt(point));
    }

    public int apart(int seed, int hand, int n, int what) {
        if (!isHand(seed, hand) || !isWithin(n, 2, Yard.MOST_BOATS) || !isWithin(what, 0, 1)) {
            return none(IMPOSSIBLE);
        }
        if (sheet.stations == 0) {
            return none(NONE_SUCH);
        }
        yard.compareBoats(sheet, seed, hand, n);
        return answer(what == 0 ? yard.apartBy : yard.apartPoint);
    }

    public int built(int seed, int hand, int n, int tray, int many, int slack, int what) {
        if (!isHand(seed, hand) || !isWithin(n, 1, Yard.MOST_BOATS) || !trays.isTray(tray)
                || !isWithin(many, 1, 20) || !isWithin(slack, 0, 99) || !isWithin(what, 0, 1)) {
            return none(IMPOSSIBLE);
        }
        int lack = trays.lackOf(tray, 2 * many);
        if (lack != FINE) {
            return none(lack);
        }
        if (!areMeasures(tray, many)) {
            return none(IMPOSSIBLE_IN_TRAY);
        }
        int fitting = 0;
        int first = NONE;
        for (int k = 0; k < n; k++) {
            yard.buildBoat(sheet, seed, hand, k);
            if (isBoatAsMeasured(tray, many, slack)) {
                first = fitting == 0 ? k : first;
                fitting++;
            }
        }
        if (what == 0) {
            return answer(fitting);
        }
        return fitting == 0 ? none(NONE_SUCH) : answer(first);
    }

    // ---- AFLOAT

    public boolean volume(int water) {
        if (water < 1 || !sheet.hasWater(water)) {
            return no(IMPOSSIBLE);
        }
        return tell(sheet.twiceVolume(water), 2);
    }

    public boolean centre(int water) {
        if (water < 1 || !sheet.hasWater(water)) {
            return no(IMPOSSIBLE);
        }
        long areas = sheet.areasTogether(water);
        if (areas == 0) {
            return no(NONE_SUCH);
        }
        return tell(sheet.momentsTogether(water) * sheet.space, areas);
    }

    public boolean carried(int water, int point, int breadth) {
        if (water < 1 || !sheet.hasWater(water) || !sheet.hasPoint(point)
                || !isWithin(breadth, 0, MOST_BREADTH)) {
            return no(IMPOSSIBLE);
        }
        long now = sheet.twiceVolume(water);
        int was = sheet.at(point);
        sheet.put(point, breadth);
        long then = sheet.twiceVolume(water);
        sheet.put(point, was);
        return tell(then - now, 2);
    }

    // ---- MARKS

    public int mark() {
        if (marks >= MOST_MARKS || marks >= markedSheets.length || marks >= markedWays.length) {
            return none(TOO_MANY);
        }
        Sheet sheetThen = markedSheets[marks];
        Way wayThen = markedWays[marks];
        if (sheetThen != null && wayThen != null) {
            sheetThen.copyFrom(sheet);
            wayThen.copyFrom(way);
        }
        marks++;
        return answer(marks);
    }

    public int back() {
        if (marks <= 0 || marks > markedSheets.length || marks > markedWays.length) {
            return none(NONE_SUCH);
        }
        marks--;
        Sheet sheetThen = markedSheets[marks];
        Way wayThen = markedWays[marks];
        if (sheetThen != null && wayThen != null) {
            sheet.copyFrom(sheetThen);
            way.copyFrom(wayThen);
        }
        return answer(marks);
    }

    // ---- how calls end

    private boolean yes() {
        status = FINE;
        return true;
    }

    private boolean no(int why) {
        status = why;
        return false;
    }

    private int answer(int value) {
        status = FINE;
        return value;
    }

    private int none(int why) {
        status = why;
        return NONE;
    }

    private boolean tell(long newTop, long newBottom) {
        long divisor = commonDivisor(newTop, newBottom);
        if (divisor > 0) {
            top = newTop / divisor;
            bottom = newBottom / divisor;
        }
        return yes();
    }

    private static long commonDivisor(long a, long b) {
        long greater = Math.abs(a);
        long lesser = Math.abs(b);
        // Euclid's steps over longs are fewer than a hundred.
        for (int turn = 0; turn < 200 && lesser != 0; turn++) {
            long left = greater % lesser;
            greater = lesser;
            lesser = left;
        }
        return greater;
    }

    private static boolean isWithin(long value, long low, long high) {
        return value >= low && value <= high;
    }

    private static boolean isHand(int seed, int hand) {
        return isWithin(seed, 0, 9999) && isWithin(hand, 0, 20);
    }

    // ---- what stands in TRAYS

    private boolean areSquares(int tray, int many) {
        for (int square = 0; square < many; square++) {
            if (!isWithin(trays.at(tray, 3 * square), 0, 9999)
                    || !isWithin(trays.at(tray, 3 * square + 1), 0, 19999)
                    || !isWithin(trays.at(tray, 3 * square + 2), 0, 1)) {
                return false;
            }
        }
        return true;
    }

    private int tellRates(int tray, int many, int side, int asked) {
        int fitting = 0;
        int least = 0;
        int most = 0;
        for (int rate = -MOST_RATE; rate <= MOST_RATE; rate++) {
            if (isRateFitting(tray, many, side, rate)) {
                least = fitting == 0 ? rate : least;
                most = rate;
                fitting++;
            }
        }
        if (asked == 0) {
            return answer(fitting);
        }
        if (fitting == 0) {
            return none(NONE_SUCH);
        }
        return answer(asked == 1 ? least : most);
    }

    private boolean isRateFitting(int tray, int many, int side, int rate) {
        for (int square = 0; square < many; square++) {
            long real = trays.at(tray, 3 * square);
            long due = real + real * rate / 1000;
            boolean isMeant = trays.at(tray, 3 * square + 2) == side;
            if (isMeant && Math.abs(trays.at(tray, 3 * square + 1) - due) > 1) {
                return false;
            }
        }
        return true;
    }

    private boolean areMeasures(int tray, int many) {
        for (int couple = 0; couple < many; couple++) {
            if (!sheet.hasPoint(trays.at(tray, 2 * couple))
                    || !isWithin(trays.at(tray, 2 * couple + 1), 0, MOST_BREADTH)) {
                return false;
            }
        }
        return true;
    }

    private boolean isBoatAsMeasured(int tray, int many, int slack) {
        for (int couple = 0; couple < many; couple++) {
            int breadth = yard.boatAt((int) trays.at(tray, 2 * couple));
            if (Math.abs(trays.at(tray, 2 * couple + 1) - breadth) > slack) {
                return false;
            }
        }
        return true;
    }

    /** TRAYS: four rows, each of numbers of one sort. */
    private static final class Trays {

        static final int ROOM = 60;
        private static final int MANY = 4;

        private final long[] numbers = new long[MANY * ROOM];
        private final int[] sorts = {NONE, NONE, NONE, NONE};
        private final int[] sizes = new int[MANY];

        boolean isTray(int tray) {
            return tray >= 0 && tray < MANY;
        }

        private int sortOf(int tray) {
            return tray >= 0 && tray < sorts.length ? sorts[tray] : NONE;
        }

        private int sizeOf(int tray) {
            return tray >= 0 && tray < sizes.length ? sizes[tray] : 0;
        }

        boolean isMissing(int tray) {
            return sortOf(tray) == NONE;
        }

        boolean areAlike(int tray, int other) {
            return sortOf(tray) == sortOf(other);
        }

        boolean hasRun(int tray, int place, int many) {
            return place >= 0 && many >= 0 && (long) place + many <= sizeOf(tray);
        }

        int lackOf(int tray, int many) {
            if (isMissing(tray)) {
                return MISSING;
            }
            return sizeOf(tray) < many ? TOO_FEW : FINE;
        }

        int lackOfPlace(int tray, int place) {
            if (!isTray(tray)) {
                return IMPOSSIBLE;
            }
            if (isMissing(tray)) {
                return MISSING;
            }
            return hasRun(tray, place, 1) ? FINE : TOO_FEW;
        }

        void lay(int tray, int sort, int many) {
            if (tray < 0 || tray >= sorts.length || tray >= sizes.length) {
                return;
            }
            sorts[tray] = sort;
            sizes[tray] = many;
            for (int place = 0; place < many; place++) {
                put(tray, place, 0);
            }
        }

        void put(int tray, int place, long value) {
            int index = tray * ROOM + place;
            if (index < 0 || index >= numbers.length) {
                return;
            }
            switch (sortOf(tray)) {
                case 0:
                    numbers[index] = (byte) value;
                    break;
                case 1:
                    numbers[index] = (short) value;
                    break;
                case 2:
                    numbers[index] = (int) value;
                    break;
                default:
                    numbers[index] = value;
            }
        }

        long at(int tray, int place) {
            int index = tray * ROOM + place;
            return index >= 0 && index < numbers.length ? numbers[index] : 0;
        }

        void copyRun(int from, int place, int to, int at, int many) {
            int source = from * ROOM + place;
            int target = to * ROOM + at;
            if (isTray(from) && isTray(to) && hasRun(from, place, many) && hasRun(to, at, many)) {
                System.arraycopy(numbers, source, numbers, target, many);
            }
        }
    }

    /** The tape of fed bytes, and the TOKENS along it. */
    private static final class Tape {

        static final int ROOM = 600;
        static final int END = 0;
        static final int WORD = 1;
        static final int NUMBER = 2;
        static final int SIGN = 3;
        private static final int STRANGE = 4;
        private static final int BLANK = 5;
        private static final int TOO_LONG = 9999;

        static final int NO_TOKEN = 1;
        static final int MISPLACED = 2;
        static final int UNEVEN = 3;
        static final int BAD_NUMBER = 4;
        static final int AGAIN = 5;
        static final int BEYOND = 6;

        private final int[] bytes = new int[ROOM];
        int size;
        private int end;
        private int next;
        int kind;
        int start;
        int number;
        int fault = NONE;
        int faultPlace = NONE;

        void append(int four) {
            for (int shift = 24; shift >= 0; shift -= 8) {
                if (size >= 0 && size < bytes.length) {
                    bytes[size] = (four >>> shift) & 255;
                    size++;
                }
            }
        }

        private int byteAt(int place) {
            return place >= 0 && place < bytes.length ? bytes[place] : 0;
        }

        void begin(int many) {
            end = Math.min(many, ROOM);
            next = 0;
            fault = 0;
            faultPlace = NONE;
        }

        void advance() {
            while (next < end && kindAt(next) == BLANK) {
                next++;
            }
            start = next;
            number = 0;
            kind = next < end ? kindAt(next) : END;
            if (kind == SIGN) {
                next++;
            } else if (kind == WORD) {
                while (next < end && kindAt(next) == WORD) {
                    next++;
                }
            } else if (kind == NUMBER) {
                while (next < end && kindAt(next) == NUMBER) {
                    // Kept low, for a row of digits may be as long as the tape.
                    number = Math.min(TOO_LONG, number * 10 + byteAt(next) - '0');
                    next++;
                }
                kind = next - start > 3 ? STRANGE : NUMBER;
            }
        }

        /** The kind of TOKEN that a byte belongs to. */
        private int kindAt(int place) {
            int sign = place >= 0 && place < bytes.length ? bytes[place] : 0;
            if (sign >= 'a' && sign <= 'z') {
                return WORD;
            }
            if (sign >= '0' && sign <= '9') {
                return NUMBER;
            }
            if (sign == 10 || sign == 32) {
                return BLANK;
            }
            return sign == ';' ? SIGN : STRANGE;
        }

        boolean fail(int what) {
            fault = what;
            faultPlace = start;
            return false;
        }

        boolean isKind(int wanted) {
            if (kind == STRANGE) {
                return fail(NO_TOKEN);
            }
            return kind == wanted || fail(MISPLACED);
        }

        boolean takeKind(int wanted) {
            advance();
            return isKind(wanted);
        }

        boolean takeNumber(int low, int high) {
            advance();
            if (!isKind(NUMBER)) {
                return false;
            }
            return isWithin(number, low, high) || fail(BAD_NUMBER);
        }

        boolean takeWord(String word) {
            advance();
            if (!isKind(WORD)) {
                return false;
            }
            return isWord(word) || fail(MISPLACED);
        }

        boolean isWord(String word) {
            if (kind != WORD || next - start != word.length()) {
                return false;
            }
            for (int i = 0; i < word.length(); i++) {
                if (byteAt(start + i) != word.charAt(i)) {
                    return false;
                }
            }
            return true;
        }

        /** The VIEW that the TOKEN names, or NONE. */
        int namedView() {
            if (isWord("stations")) {
                return 0;
            }
            if (isWord("waters")) {
                return 1;
            }
            return isWord("slants") ? 2 : NONE;
        }
    }

    /** A BOOK, the floor's BREADTHS by it, and what is KEPT: all that a MARK has but the WAY. */
    private static final class Sheet {

        static final int MOST_STATIONS = 8;
        static final int MOST_WATERS = 6;
        static final int MOST_VIEWS = 6;

        int stations;
        int waters;
        int space;
        int rise;
        int eye;
        int step;
        int views;
        final int[] order = new int[MOST_VIEWS];
        private final int[] told = new int[POINT_ROOM];
        private final int[] floor = new int[POINT_ROOM];
        private long kept;
        int foundView;
        int foundLine;
        int foundPlace;
        int low;
        int high;

        Sheet() {
            setDefaults();
        }

        private void setDefaults() {
            stations = 0;
            waters = 0;
            space = 10;
            rise = 10;
            eye = 5;
            step = 1;
            views = 3;
            for (int k = 0; k < order.length; k++) {
                order[k] = k % 3;
            }
            kept = 0;
        }

        void empty() {
            setDefaults();
        }

        void copyFrom(Sheet other) {
            stations = other.stations;
            waters = other.waters;
            space = other.space;
            rise = other.rise;
            eye = other.eye;
            step = other.step;
            views = other.views;
            kept = other.kept;
            System.arraycopy(other.order, 0, order, 0, MOST_VIEWS);
            System.arraycopy(other.told, 0, told, 0, POINT_ROOM);
            System.arraycopy(other.floor, 0, floor, 0, POINT_ROOM);
        }

        // POINTS

        boolean hasStation(int station) {
            return station >= 0 && station < stations;
        }

        boolean hasWater(int water) {
            return water >= 0 && water < waters;
        }

        boolean hasStrip(int strip) {
            return strip >= 0 && strip < waters - 1;
        }

        boolean hasPoint(long point) {
            return point >= 0 && point < POINT_ROOM && hasStation((int) point >> 3)
                    && hasWater((int) point & 7);
        }

        int at(int point) {
            return point >= 0 && point < floor.length ? floor[point] : 0;
        }

        int toldAt(int point) {
            return point >= 0 && point < told.length ? told[point] : 0;
        }

        void put(int point, int breadth) {
            if (point >= 0 && point < floor.length) {
                floor[point] = breadth;
            }
        }

        void tellBreadth(int point, int breadth) {
            if (point >= 0 && point < told.length) {
                told[point] = breadth;
            }
            put(point, breadth);
        }

        /** Ten bits hold a BREADTH, so one number holds those of a STATION. */
        long packedStation(int station) {
            long packed = 0;
            for (int water = 0; water < waters; water++) {
                packed = packed << 10 | at(8 * station + water);
            }
            return packed;
        }

        boolean isKept(int point) {
            return (kept & bit(point)) != 0;
        }

        void setKept(int point, boolean is) {
            kept = is ? kept | bit(point) : kept & ~bit(point);
        }

        static long bit(int point) {
            return 1L << (point & 63);
        }

        void addView(int named) {
            if (views >= 0 && views < order.length) {
                order[views] = named;
                views++;
            }
        }

        // LINES

        boolean isView(int view) {
            return view >= 0 && view <= 2;
        }

        int linesOf(int view) {
            if (view == 0) {
                return stations;
            }
            if (view == 1) {
                return waters;
            }
            return stations == 0 ? 0 : stations + waters - 1;
        }

        boolean hasLine(int view, int line) {
            return isView(view) && line >= 0 && line < linesOf(view);
        }

        boolean hasPlace(int view, int line, int place) {
            return hasLine(view, line) && place >= 0 && place < placesOf(view, line);
        }

        boolean hasDucks(int view, int line, int ducks) {
            return hasLine(view, line) && ducks >= 0 && ducks < 1 << placesOf(view, line);
        }

        /** From a POINT of a LINE to the next one the number grows by as much all along. */
        int strideOf(int view) {
            if (view == 0) {
                return 1;
            }
            return view == 1 ? 8 : 9;
        }

        private int firstOf(int view, int line) {
            if (view == 0) {
                return 8 * line;
            }
            if (view == 1) {
                return line;
            }
            int lead = line - (stations - 1);
            return lead < 0 ? -8 * lead : lead;
        }

        int placesOf(int view, int line) {
            if (view == 0) {
                return waters;
            }
            if (view == 1) {
                return stations;
            }
            int lead = line - (stations - 1);
            int lowest = Math.max(0, -lead);
            int highest = Math.min(stations - 1, waters - 1 - lead);
            return highest - lowest + 1;
        }

        int pointAt(int view, int line, int place) {
            return firstOf(view, line) + place * strideOf(view);
        }

        private int lineThrough(int view, int point) {
            int station = point >> 3;
            int water = point & 7;
            if (view == 0) {
                return station;
            }
            return view == 1 ? water : water - station + stations - 1;
        }

        private int placeOf(int view, int point) {
            int station = point >> 3;
            int water = point & 7;
            if (view == 0) {
                return water;
            }
            return view == 1 ? station : Math.min(station, water);
        }

        // BENDS

        int bendAt(int point, int stride) {
            return at(point - stride) + at(point + stride) - 2 * at(point);
        }

        /** By how much BEND differs from that of the PLACE ahead. */
        private int jumpAt(int point, int stride) {
            if (stride < 0 || point < 2 * stride || point >= floor.length - stride) {
                return 0;
            }
            return floor[point + stride] - floor[point - 2 * stride]
                    + 3 * (floor[point - stride] - floor[point]);
        }

        private boolean isUnfair(int point, int stride) {
            return Math.abs(jumpAt(point, stride)) > eye;
        }

        /** Moves a POINT towards its WISH: whether it did. */
        boolean nudge(int point, int stride) {
            if (stride < 0 || point < 2 * stride || point >= floor.length - 2 * stride) {
                return false;
            }
            int near = floor[point - stride] + floor[point + stride];
            int far = floor[point - 2 * stride] + floor[point + 2 * stride];
            int now = floor[point];
            int wish = Math.floorDiv(4 * near - far + 3, 6);
            int moved = Math.max(now - step, Math.min(now + step, wish));
            moved = Math.max(0, Math.min(MOST_BREADTH, moved));
            floor[point] = moved;
            return moved != now;
        }

        int unfairOn(int view, int line) {
            int many = 0;
            int stride = strideOf(view);
            int places = placesOf(view, line);
            for (int place = 2; place < places - 1; place++) {
                if (isUnfair(pointAt(view, line, place), stride)) {
                    many++;
                }
            }
            return many;
        }

        /** How many PLACES are UNFAIR whose BREADTHS are all of POINTS out of a set. */
        int unfairBeyond(long set) {
            int many = 0;
            for (int view = 0; view <= 2; view++) {
                int stride = strideOf(view);
                int lines = linesOf(view);
                for (int line = 0; line < lines; line++) {
                    int places = placesOf(view, line);
                    int point = firstOf(view, line) + 2 * stride;
                    for (int place = 2; place < places - 1; place++) {
                        if ((set & hold(point, stride)) == 0 && isUnfair(point, stride)) {
                            many++;
                        }
                        point += stride;
                    }
                }
            }
            return many;
        }

        /** The set of those POINTS whose BREADTHS make a PLACE fair or UNFAIR. */
        private static long hold(int point, int stride) {
            return bit(point - 2 * stride) | bit(point - stride) | bit(point) | bit(point + stride);
        }

        boolean findUnfair(int k) {
            int ahead = 0;
            for (int view = 0; view <= 2; view++) {
                for (int line = 0; line < linesOf(view); line++) {
                    int here = unfairOn(view, line);
                    if (k < ahead + here) {
                        foundView = view;
                        foundLine = line;
                        foundPlace = findUnfairPlace(view, line, k - ahead);
                        return true;
                    }
                    ahead += here;
                }
            }
            return false;
        }

        private int findUnfairPlace(int view, int line, int k) {
            int ahead = 0;
            int places = placesOf(view, line);
            for (int place = 2; place < places - 1; place++) {
                if (isUnfair(pointAt(view, line, place), strideOf(view))) {
                    if (ahead == k) {
                        return place;
                    }
                    ahead++;
                }
            }
            return NONE;
        }

        long strainOn(int view, int line) {
            long strain = 0;
            int places = placesOf(view, line);
            for (int place = 1; place < places - 1; place++) {
                long bend = bendAt(pointAt(view, line, place), strideOf(view));
                strain += bend * bend;
            }
            return strain;
        }

        int crookOf(int station) {
            int crook = 0;
            for (int water = 1; water < waters - 1; water++) {
                crook += Math.abs(bendAt(8 * station + water, 1));
            }
            return crook;
        }

        /**
         * Sets low and high to the BREADTHS between which a POINT leaves all PLACES fair that
         * it bears on, but for those on which unknown POINTS bear too.
         */
        void narrow(int point, long unknown) {
            low = 0;
            high = MOST_BREADTH;
            for (int view = 0; view <= 2; view++) {
                int stride = strideOf(view);
                int here = placeOf(view, point);
                int places = placesOf(view, lineThrough(view, point));
                int last = Math.min(places - 2, here + 2);
                for (int place = Math.max(2, here - 1); place <= last; place++) {
                    int other = point + (place - here) * stride;
                    if ((unknown & hold(other, stride)) == 0) {
                        narrowBy(point, other, stride);
                    }
                }
            }
        }

        /** Two neighbouring BENDS differ by a sum in which each BREADTH has a weight. */
        private void narrowBy(int point, int other, int stride) {
            int weight = 1;
            if (point == other) {
                weight = -3;
            } else if (point == other - stride) {
                weight = 3;
            } else if (point == other - 2 * stride) {
                weight = -1;
            }
            int rest = jumpAt(other, stride) - weight * at(point);
            if (weight < 0) {
                weight = -weight;
                rest = -rest;
            }
            if (weight > 0) {
                low = Math.max(low, -Math.floorDiv(eye + rest, weight));
                high = Math.min(high, Math.floorDiv(eye - rest, weight));
            }
        }

        // the BOOK and the floor

        int givenSum() {
            int sum = 0;
            for (int point = 0; point < POINT_ROOM; point++) {
                sum += givenAt(point);
            }
            return sum;
        }

        int givenMost() {
            int most = 0;
            for (int point = 0; point < POINT_ROOM; point++) {
                most = Math.max(most, givenAt(point));
            }
            return most;
        }

        int givenMany() {
            int many = 0;
            for (int point = 0; point < POINT_ROOM; point++) {
                many += givenAt(point) == 0 ? 0 : 1;
            }
            return many;
        }

        private int givenAt(int point) {
            return hasPoint(point) ? Math.abs(at(point) - toldAt(point)) : 0;
        }

        // STRIPS

        int widthOf(int strip, int station) {
            int point = 8 * station + strip;
            int across = at(point + 1) - at(point);
            return root(rise * rise + across * across);
        }

        int lengthOf(int water) {
            int sum = 0;
            for (int station = 0; station < stations - 1; station++) {
                int point = 8 * station + water;
                int across = at(point + 8) - at(point);
                sum += root(space * space + across * across);
            }
            return sum;
        }

        /** Two squares of at most 999 have a root below 2,048. */
        private static int root(int square) {
            int found = 0;
            for (int part = 1024; part > 0; part >>= 1) {
                int tried = found + part;
                if (tried * tried <= square) {
                    found = tried;
                }
            }
            return found;
        }

        // AREAS

        private long areaOf(int station, int water) {
            long area = 0;
            for (int strip = 0; strip < water; strip++) {
                area += at(8 * station + strip) + at(8 * station + strip + 1);
            }
            return area;
        }

        long areasTogether(int water) {
            long sum = 0;
            for (int station = 0; station < stations - 1; station++) {
                sum += areaOf(station, water) + areaOf(station + 1, water);
            }
            return sum;
        }

        long momentsTogether(int water) {
            long sum = 0;
            for (int station = 0; station < stations - 1; station++) {
                sum += areaOf(station, water) * station
                        + areaOf(station + 1, water) * (station + 1);
            }
            return sum;
        }

        long twiceVolume(int water) {
            return areasTogether(water) * space * rise;
        }
    }

    /** Reads a BOOK from the tape to a sheet of its own: one with a FAULT changes no other. */
    private static final class BookReader {

        private static final int SPACE = 0;
        private static final int RISE = 1;
        private static final int EYE = 2;
        private static final int STEP = 3;
        private static final int ORDER = 4;

        private final Tape tape;
        final Sheet sheet = new Sheet();
        private int toldParts;

        BookReader(Tape tape) {
            this.tape = tape;
        }

        boolean readText(int many) {
            tape.begin(many);
            sheet.empty();
            toldParts = 0;
            // A PART takes a byte at least, so the text's end is met in time.
            for (int part = 0; part <= many; part++) {
                tape.advance();
                if (tape.kind == Tape.END) {
                    return true;
                }
                if (!readPart()) {
                    return false;
                }
            }
            return true;
        }

        private boolean readPart() {
            if (!tape.isKind(Tape.WORD)) {
                return false;
            }
            if (tape.isWord("row")) {
                return readRow();
            }
            if (tape.isWord("keep")) {
                return readKept();
            }
            if (tape.isWord("order")) {
                return readOrder();
            }
            if (tape.isWord("space")) {
                return readSetting(SPACE, 1, 999);
            }
            if (tape.isWord("rise")) {
                return readSetting(RISE, 1, 999);
            }
            if (tape.isWord("eye")) {
                return readSetting(EYE, 0, 999);
            }
            if (tape.isWord("step")) {
                return readSetting(STEP, 1, 99);
            }
            return tape.fail(Tape.MISPLACED);
        }

        private boolean readRow() {
            if (sheet.stations >= Sheet.MOST_STATIONS) {
                return tape.fail(Tape.BEYOND);
            }
            if (!tape.takeKind(Tape.NUMBER)) {
                return false;
            }
            boolean isFirst = sheet.stations == 0;
            int most = isFirst ? Sheet.MOST_WATERS : sheet.waters;
            int many = 0;
            while (tape.kind == Tape.NUMBER && many <= most) {
                if (many == most) {
                    return tape.fail(isFirst ? Tape.BEYOND : Tape.UNEVEN);
                }
                sheet.tellBreadth(8 * sheet.stations + many, tape.number);
                many++;
                tape.advance();
            }
            if (!tape.isKind(Tape.SIGN)) {
                return false;
            }
            if (isFirst ? many < 3 : many != sheet.waters) {
                return tape.fail(Tape.UNEVEN);
            }
            sheet.waters = many;
            sheet.stations++;
            return true;
        }

        private boolean readKept() {
            if (!tape.takeNumber(0, sheet.stations - 1)) {
                return false;
            }
            int station = tape.number;
            if (!tape.takeNumber(0, sheet.waters - 1)) {
                return false;
            }
            int point = 8 * station + tape.number;
            if (sheet.isKept(point)) {
                return tape.fail(Tape.AGAIN);
            }
            sheet.setKept(point, true);
            return tape.takeKind(Tape.SIGN);
        }

        private boolean isNew(int part) {
            if ((toldParts >> part & 1) != 0) {
                return tape.fail(Tape.AGAIN);
            }
            toldParts |= 1 << part;
            return true;
        }

        private boolean readOrder() {
            if (!isNew(ORDER) || !tape.takeKind(Tape.WORD)) {
                return false;
            }
            sheet.views = 0;
            for (int turn = 0; turn <= Sheet.MOST_VIEWS && tape.kind == Tape.WORD; turn++) {
                int named = tape.namedView();
                if (named == NONE) {
                    return tape.fail(Tape.MISPLACED);
                }
                if (sheet.views >= Sheet.MOST_VIEWS) {
                    return tape.fail(Tape.BEYOND);
                }
                sheet.addView(named);
                tape.advance();
            }
            return tape.isKind(Tape.SIGN);
        }

        private boolean readSetting(int part, int least, int most) {
            if (!isNew(part) || !tape.takeNumber(least, most)) {
                return false;
            }
            switch (part) {
                case SPACE:
                    sheet.space = tape.number;
                    break;
                case RISE:
                    sheet.rise = tape.number;
                    break;
                case EYE:
                    sheet.eye = tape.number;
                    break;
                default:
                    sheet.step = tape.number;
            }
            return tape.takeKind(Tape.SIGN);
        }
    }

    /** The STEPS of a WAY, and the ends among them, in a row. */
    private static final class Way {

        static final int MOST_STEPS = 30;

        /** Each until and each when has an end. */
        static final int ROOM = 2 * MOST_STEPS;

        static final int END = 0;
        static final int EASE = 1;
        static final int MOVE = 2;
        static final int KEEP = 3;
        static final int FREE = 4;
        static final int BEND = 5;
        static final int UNTIL = 6;
        static final int WHEN = 7;

        int size;
        int steps;
        private final int[] kinds = new int[ROOM];
        private final int[] firsts = new int[ROOM];
        private final int[] seconds = new int[ROOM];
        /** Of an until, a when: where its end is; of an end: where it began. */
        private final int[] partners = new int[ROOM];

        void empty() {
            size = 0;
            steps = 0;
        }

        void copyFrom(Way other) {
            size = other.size;
            steps = other.steps;
            System.arraycopy(other.kinds, 0, kinds, 0, ROOM);
            System.arraycopy(other.firsts, 0, firsts, 0, ROOM);
            System.arraycopy(other.seconds, 0, seconds, 0, ROOM);
            System.arraycopy(other.partners, 0, partners, 0, ROOM);
        }

        void add(int kind, int first, int second) {
            if (size >= 0 && size < ROOM) {
                kinds[size] = kind;
                firsts[size] = first;
                seconds[size] = second;
                size++;
            }
        }

        void pair(int begin, int end) {
            if (begin >= 0 && begin < ROOM && end >= 0 && end < ROOM) {
                partners[begin] = end;
                partners[end] = begin;
            }
        }

        private static boolean isInRoom(int index) {
            return index >= 0 && index < ROOM;
        }

        int kindAt(int index) {
            return isInRoom(index) ? kinds[index] : END;
        }

        int firstAt(int index) {
            return isInRoom(index) ? firsts[index] : 0;
        }

        int secondAt(int index) {
            return isInRoom(index) ? seconds[index] : 0;
        }

        int partnerAt(int index) {
            return isInRoom(index) ? partners[index] : ROOM;
        }
    }

    /** Reads a WAY from the tape to a row of its own: one with a FAULT changes no other. */
    private static final class WayReader {

        static final int MOST_BYTES = 300;
        private static final int MOST_DEPTH = 3;
        private static final int TOO_DEEP = 5;

        private final Tape tape;
        final Way way = new Way();
        private final int[] open = new int[MOST_DEPTH];
        private int depth;

        WayReader(Tape tape) {
            this.tape = tape;
        }

        boolean readText(int many) {
            tape.begin(many);
            way.empty();
            depth = 0;
            // A STEP takes a byte at least, so the text's end is met in time.
            for (int step = 0; step <= many; step++) {
                tape.advance();
                if (tape.kind == Tape.END) {
                    return depth == 0 || tape.fail(Tape.MISPLACED);
                }
                if (!readStep()) {
                    return false;
                }
            }
            return true;
        }

        private boolean readStep() {
            if (!tape.isKind(Tape.WORD)) {
                return false;
            }
            int kind = namedStep();
            if (kind == Way.END && depth > 0) {
                return close();
            }
            if (kind == NONE || kind == Way.END) {
                return tape.fail(Tape.MISPLACED);
            }
            if (depth >= MOST_DEPTH && (kind == Way.UNTIL || kind == Way.WHEN)) {
                return tape.fail(TOO_DEEP);
            }
            if (way.steps >= Way.MOST_STEPS) {
                return tape.fail(Tape.BEYOND);
            }
            way.steps++;
            return readRest(kind);
        }

        private int namedStep() {
            if (tape.isWord("end")) {
                return Way.END;
            }
            if (tape.isWord("ease")) {
                return Way.EASE;
            }
            if (tape.isWord("move")) {
                return Way.MOVE;
            }
            if (tape.isWord("keep")) {
                return Way.KEEP;
            }
            if (tape.isWord("free")) {
                return Way.FREE;
            }
            if (tape.isWord("bend")) {
                return Way.BEND;
            }
            if (tape.isWord("until")) {
                return Way.UNTIL;
            }
            return tape.isWord("when") ? Way.WHEN : NONE;
        }

        private boolean readRest(int kind) {
            switch (kind) {
                case Way.EASE:
                    return readCount(Way.EASE, MOST_ROUNDS);
                case Way.UNTIL:
                    open();
                    return readCount(Way.UNTIL, 9);
                case Way.WHEN:
                    open();
                    way.add(Way.WHEN, 0, 0);
                    return tape.takeKind(Tape.SIGN);
                case Way.BEND:
                    return readBend();
                default:
                    return readPoint(kind);
            }
        }

        private void open() {
            if (depth >= 0 && depth < open.length) {
                open[depth] = way.size;
                depth++;
            }
        }

        private boolean close() {
            if (depth > 0 && depth <= open.length) {
                depth--;
                way.pair(open[depth], way.size);
            }
            way.add(Way.END, 0, 0);
            return tape.takeKind(Tape.SIGN);
        }

        private boolean readCount(int kind, int most) {
            if (!tape.takeNumber(1, most)) {
                return false;
            }
            way.add(kind, tape.number, 0);
            return tape.takeKind(Tape.SIGN);
        }

        private boolean readPoint(int kind) {
            if (!tape.takeNumber(0, Sheet.MOST_STATIONS - 1)) {
                return false;
            }
            int station = tape.number;
            if (!tape.takeNumber(0, Sheet.MOST_WATERS - 1)) {
                return false;
            }
            int point = 8 * station + tape.number;
            if (kind == Way.MOVE && !tape.takeNumber(0, MOST_BREADTH)) {
                return false;
            }
            way.add(kind, point, tape.number);
            return tape.takeKind(Tape.SIGN);
        }

        private boolean readBend() {
            if (!tape.takeKind(Tape.WORD)) {
                return false;
            }
            int view = tape.namedView();
            if (view == NONE) {
                return tape.fail(Tape.MISPLACED);
            }
            if (!tape.takeNumber(0, 12)) {
                return false;
            }
            int line = tape.number;
            if (!tape.takeWord("at") || !tape.takeKind(Tape.NUMBER)) {
                return false;
            }
            int ducks = readDucks();
            if (ducks == NONE) {
                return false;
            }
            // LINES are numbered below 16, so VIEW and LINE go into one number.
            way.add(Way.BEND, 16 * view + line, ducks);
            return true;
        }

        /** The set of the DUCKS' PLACES up to the SIGN, or NONE behind a FAULT. */
        private int readDucks() {
            int ducks = 0;
            for (int turn = 0; turn <= 8 && tape.kind == Tape.NUMBER; turn++) {
                if (tape.number > 7 || (ducks >> tape.number & 1) != 0) {
                    tape.fail(Tape.BAD_NUMBER);
                    return NONE;
                }
                ducks |= 1 << tape.number;
                tape.advance();
            }
            if (!tape.isKind(Tape.SIGN)) {
                return NONE;
            }
            if (Integer.bitCount(ducks) < 2) {
                tape.fail(Tape.MISPLACED);
                return NONE;
            }
            return ducks;
        }
    }

    /** Does a WAY, STEP by STEP. */
    private static final class Runner {

        private static final int MOST_DONE = 100;

        /** An until goes back from its end 9 times at most, each time it is come to. */
        private static final int MOST_TURNS = 20 * MOST_DONE;

        private final int[] left = new int[Way.ROOM];
        boolean hasRun;
        boolean isOver;
        int rounds;

        int go(Way way, Sheet sheet, Lath lath, Rounds sweeps) {
            hasRun = true;
            isOver = false;
            rounds = 0;
            int done = 0;
            int index = 0;
            for (int turn = 0; turn < MOST_TURNS && index >= 0 && index < way.size; turn++) {
                int kind = way.kindAt(index);
                if (kind == Way.END) {
                    index = nextBehindEnd(way, sheet, index);
                } else if (done >= MOST_DONE) {
                    isOver = true;
                    return done;
                } else if (kind == Way.UNTIL || kind == Way.WHEN) {
                    done++;
                    index = nextBehindStart(way, sheet, index);
                } else {
                    done++;
                    doStep(way, index, sheet, lath, sweeps);
                    index++;
                }
            }
            return done;
        }

        private int nextBehindStart(Way way, Sheet sheet, int index) {
            if (sheet.unfairBeyond(0) == 0) {
                return way.partnerAt(index) + 1;
            }
            if (index >= 0 && index < left.length) {
                left[index] = way.kindAt(index) == Way.UNTIL ? way.firstAt(index) - 1 : 0;
            }
            return index + 1;
        }

        private int nextBehindEnd(Way way, Sheet sheet, int index) {
            int start = way.partnerAt(index);
            if (start < 0 || start >= left.length || left[start] <= 0
                    || sheet.unfairBeyond(0) == 0) {
                return index + 1;
            }
            left[start]--;
            return start + 1;
        }

        private void doStep(Way way, int index, Sheet sheet, Lath lath, Rounds sweeps) {
            int first = way.firstAt(index);
            int second = way.secondAt(index);
            switch (way.kindAt(index)) {
                case Way.EASE:
                    rounds += sweeps.go(sheet, first);
                    break;
                case Way.MOVE:
                    if (sheet.hasPoint(first) && !sheet.isKept(first)) {
                        sheet.put(first, second);
                    }
                    break;
                case Way.KEEP:
                    if (sheet.hasPoint(first)) {
                        sheet.setKept(first, true);
                    }
                    break;
                case Way.FREE:
                    if (sheet.hasPoint(first)) {
                        sheet.setKept(first, false);
                    }
                    break;
                default:
                    bendLine(sheet, lath, first >> 4, first & 15, second);
            }
        }

        private void bendLine(Sheet sheet, Lath lath, int view, int line, int ducks) {
            if (!sheet.hasDucks(view, line, ducks)) {
                return;
            }
            lath.lay(sheet, view, line, ducks);
            int places = sheet.placesOf(view, line);
            for (int place = 0; place < places; place++) {
                int point = sheet.pointAt(view, line, place);
                if ((ducks >> place & 1) == 0 && !sheet.isKept(point)) {
                    sheet.put(point, lath.nearestAt(place));
                }
            }
        }
    }

    /** A LATH on a LINE, exactly: all PLACES are told by tops over one bottom. */
    private static final class Lath {

        private static final int MOST_PLACES = 8;
        private static final int ROW = MOST_PLACES + 1;

        private final long[] grid = new long[MOST_PLACES * ROW];
        private int places;
        long bottom = 1;

        void lay(Sheet sheet, int view, int line, int ducks) {
            places = Math.min(MOST_PLACES, sheet.placesOf(view, line));
            for (int place = 0; place < places; place++) {
                if ((ducks >> place & 1) != 0) {
                    layDuck(place, sheet.at(sheet.pointAt(view, line, place)));
                } else {
                    layFree(place);
                }
            }
            solve();
        }

        private long cellAt(int row, int column) {
            int index = row * ROW + column;
            return index >= 0 && index < grid.length ? grid[index] : 0;
        }

        private void setCell(int row, int column, long value) {
            int index = row * ROW + column;
            if (index >= 0 && index < grid.length) {
                grid[index] = value;
            }
        }

        private void layDuck(int place, int breadth) {
            for (int column = 0; column < places; column++) {
                setCell(place, column, column == place ? 1 : 0);
            }
            setCell(place, places, breadth);
        }

        /** Where STRAIN is least, it does not change with a small move of a free PLACE. */
        private void layFree(int place) {
            for (int column = 0; column < places; column++) {
                long sum = 0;
                for (int middle = 1; middle < places - 1; middle++) {
                    sum += weight(middle, place) * weight(middle, column);
                }
                setCell(place, column, sum);
            }
            setCell(place, places, 0);
        }

        private static long weight(int middle, int place) {
            if (middle == place) {
                return -2;
            }
            return Math.abs(middle - place) == 1 ? 1 : 0;
        }

        /**
         * Elimination without fractions: each division leaves nothing, and no pivot is 0, for
         * with two DUCKS there is but one place for the LATH, whatever PLACES it is cut off at.
         */
        private void solve() {
            long before = 1;
            for (int pivotRow = 0; pivotRow < places; pivotRow++) {
                long pivot = cellAt(pivotRow, pivotRow);
                if (pivot == 0) {
                    return;
                }
                for (int row = 0; row < places; row++) {
                    if (row != pivotRow) {
                        clear(row, pivotRow, pivot, before);
                    }
                }
                before = pivot;
            }
            bottom = before;
        }

        private void clear(int row, int pivotRow, long pivot, long before) {
            if (before == 0) {
                return;
            }
            long factor = cellAt(row, pivotRow);
            for (int column = 0; column <= places; column++) {
                long value = pivot * cellAt(row, column) - factor * cellAt(pivotRow, column);
                setCell(row, column, value / before);
            }
        }

        long topAt(int place) {
            return cellAt(place, places);
        }

        int nearestAt(int place) {
            if (bottom <= 0) {
                return 0;
            }
            long nearest = Math.floorDiv(2 * topAt(place) + bottom, 2 * bottom);
            return (int) Math.max(0, Math.min(MOST_BREADTH, nearest));
        }
    }

    /** ROUNDS through the VIEWS. */
    private static final class Rounds {

        static final int REST = 1;
        static final int RING = 2;

        /** The floor ahead of each ROUND and behind the last, a STATION in one number. */
        private final long[] history = new long[(MOST_ROUNDS + 1) * Sheet.MOST_STATIONS];
        private int end;
        private int ahead;
        private int done;
        int told = NONE;
        int toldAhead;
        int toldWithin;

        int go(Sheet sheet, int most) {
            end = 0;
            ahead = NONE;
            done = 0;
            note(sheet);
            for (int turn = 0; turn < most && turn < MOST_ROUNDS && end == 0; turn++) {
                boolean hasMoved = sweep(sheet);
                done++;
                note(sheet);
                if (!hasMoved) {
                    end = REST;
                } else {
                    ahead = findSame();
                    end = ahead == NONE ? 0 : RING;
                }
            }
            return done;
        }

        void remember() {
            told = end;
            toldAhead = ahead;
            toldWithin = done - ahead;
        }

        private void note(Sheet sheet) {
            for (int station = 0; station < Sheet.MOST_STATIONS; station++) {
                int index = done * Sheet.MOST_STATIONS + station;
                if (index >= 0 && index < history.length) {
                    history[index] = sheet.hasStation(station) ? sheet.packedStation(station) : 0;
                }
            }
        }

        private int findSame() {
            for (int round = 0; round < done; round++) {
                if (isSame(round)) {
                    return round;
                }
            }
            return NONE;
        }

        private boolean isSame(int round) {
            int then = round * Sheet.MOST_STATIONS;
            int now = done * Sheet.MOST_STATIONS;
            for (int station = 0; station < Sheet.MOST_STATIONS; station++) {
                if (then < 0 || now < 0 || then >= history.length || now >= history.length
                        || history[then] != history[now]) {
                    return false;
                }
                then++;
                now++;
            }
            return true;
        }

        private boolean sweep(Sheet sheet) {
            boolean hasMoved = false;
            for (int k = 0; k < sheet.views && k < sheet.order.length; k++) {
                int view = sheet.order[k];
                int lines = sheet.linesOf(view);
                for (int line = 0; line < lines; line++) {
                    if (sweepLine(sheet, view, line)) {
                        hasMoved = true;
                    }
                }
            }
            return hasMoved;
        }

        private boolean sweepLine(Sheet sheet, int view, int line) {
            boolean hasMoved = false;
            int stride = sheet.strideOf(view);
            int places = sheet.placesOf(view, line);
            int point = sheet.pointAt(view, line, 2);
            for (int place = 2; place < places - 2; place++) {
                if (!sheet.isKept(point) && sheet.nudge(point, stride)) {
                    hasMoved = true;
                }
                point += stride;
            }
            return hasMoved;
        }
    }

    /** LEAST and SLIPS: what would make all PLACES fair. */
    private static final class Mender {

        static final int MOST_POINTS = 5;

        private final int[] points = new int[MOST_POINTS];
        private final int[] moves = new int[MOST_POINTS];
        private final int[] best = new int[MOST_POINTS];
        private int many;
        private int reach;
        private int bestMoved;
        int bestSum;
        int toldMany;
        final int[] toldMoves = new int[MOST_POINTS];
        int slipPoint;
        int slipBreadth;

        boolean choose(Sheet sheet, Trays trays, int tray, int count) {
            long chosen = 0;
            many = 0;
            for (int place = 0; place < count && place < points.length; place++) {
                long point = trays.at(tray, place);
                if (!sheet.hasPoint(point)) {
                    return false;
                }
                long bit = Sheet.bit((int) point);
                if ((chosen & bit) != 0 || sheet.isKept((int) point)) {
                    return false;
                }
                chosen |= bit;
                points[place] = (int) point;
                many++;
            }
            return true;
        }

        boolean findLeast(Sheet sheet, int by) {
            if (sheet.unfairBeyond(chosenFrom(0)) != 0) {
                return false;
            }
            reach = by;
            bestSum = BEYOND_ANY;
            bestMoved = BEYOND_ANY;
            tryFrom(sheet, 0, 0, 0);
            if (bestSum == BEYOND_ANY) {
                return false;
            }
            toldMany = many;
            System.arraycopy(best, 0, toldMoves, 0, MOST_POINTS);
            return true;
        }

        private long chosenFrom(int depth) {
            long set = 0;
            for (int place = Math.max(0, depth); place < many && place < points.length; place++) {
                set |= Sheet.bit(points[place]);
            }
            return set;
        }

        /** Lesser moves are tried first, so what is no better than the best so far is behind it. */
        private void tryFrom(Sheet sheet, int depth, int sum, int moved) {
            if (sum > bestSum || (sum == bestSum && moved >= bestMoved)) {
                return;
            }
            if (depth < 0 || depth >= many || depth >= MOST_POINTS) {
                bestSum = sum;
                bestMoved = moved;
                System.arraycopy(moves, 0, best, 0, MOST_POINTS);
                return;
            }
            int point = points[depth];
            int now = sheet.at(point);
            sheet.narrow(point, chosenFrom(depth + 1));
            int first = Math.max(sheet.low, now - reach);
            int last = Math.min(sheet.high, now + reach);
            for (int breadth = first; breadth <= last; breadth++) {
                int size = Math.abs(breadth - now);
                moves[depth] = breadth - now;
                sheet.put(point, breadth);
                tryFrom(sheet, depth + 1, sum + size, size == 0 ? moved : moved + 1);
            }
            sheet.put(point, now);
        }

        /** How many SLIPS there are, up to the k-th one, which is noted. */
        int countSlips(Sheet sheet, int k) {
            int count = 0;
            for (int point = 0; point < POINT_ROOM; point++) {
                if (sheet.hasPoint(point) && !sheet.isKept(point)
                        && sheet.unfairBeyond(Sheet.bit(point)) == 0) {
                    count += countSlipsAt(sheet, point, k == NONE ? NONE : k - count);
                }
                if (k != NONE && count > k) {
                    return count;
                }
            }
            return count;
        }

        private int countSlipsAt(Sheet sheet, int point, int k) {
            int now = sheet.at(point);
            int count = 0;
            sheet.narrow(point, 0);
            for (int breadth = sheet.low; breadth <= sheet.high; breadth++) {
                if (isSlip(now, breadth)) {
                    if (count == k) {
                        slipPoint = point;
                        slipBreadth = breadth;
                    }
                    count++;
                }
            }
            return count;
        }

        private static boolean isSlip(int now, int then) {
            int a = now / 100;
            int b = now / 10 % 10;
            int c = now % 10;
            int x = then / 100;
            int y = then / 10 % 10;
            int z = then % 10;
            int unlike = (a == x ? 0 : 1) + (b == y ? 0 : 1) + (c == z ? 0 : 1);
            boolean isFrontSwapped = a != b && x == b && y == a && z == c;
            boolean isBackSwapped = b != c && x == a && y == c && z == b;
            return unlike == 1 || isFrontSwapped || isBackSwapped;
        }
    }

    /** What is made of wood by the floor: RIBS, PLANKS, BOATS. */
    private static final class Yard {

        static final int MOST_TREES = 10;
        static final int MOST_BOATS = 40;

        private final int[] trees = new int[MOST_TREES];
        private final int[] cheapest = new int[1 << MOST_TREES];
        final int[] ribs = new int[Sheet.MOST_STATIONS];
        int ribStations;
        int plankMany;
        int plankWaste;
        private int plankTops;
        private int triedMany;
        private int triedWaste;
        private final int[] boat = new int[POINT_ROOM];
        private final int[] narrowest = new int[POINT_ROOM];
        private final int[] widest = new int[POINT_ROOM];
        int apartBy;
        int apartPoint;

        // RIBS

        boolean chooseTrees(Trays trays, int tray, int many) {
            for (int place = 0; place < many && place < trees.length; place++) {
                long crook = trays.at(tray, place);
                if (!isWithin(crook, 0, 9999)) {
                    return false;
                }
                trees[place] = (int) crook;
            }
            return true;
        }

        int matchRibs(Sheet sheet, int many) {
            int sets = Math.min(1 << many, cheapest.length);
            for (int used = sets - 1; used >= 0; used--) {
                cheapest[used] = cheapestBehind(sheet, used, many);
            }
            ribStations = sheet.stations;
            int used = 0;
            for (int station = 0; station < sheet.stations && station < ribs.length; station++) {
                int tree = firstCheapest(sheet, used, station, many);
                ribs[station] = tree;
                used |= 1 << tree;
            }
            return cheapest[0];
        }

        /** As many STATIONS have a tree as trees are used: the next one is told by that. */
        private int cheapestBehind(Sheet sheet, int used, int many) {
            int station = Integer.bitCount(used);
            if (station >= sheet.stations) {
                return 0;
            }
            int crook = sheet.crookOf(station);
            int least = BEYOND_ANY;
            for (int tree = 0; tree < many; tree++) {
                if ((used >> tree & 1) == 0) {
                    least = Math.min(least, costWith(used, tree, crook));
                }
            }
            return least;
        }

        private int firstCheapest(Sheet sheet, int used, int station, int many) {
            int crook = sheet.crookOf(station);
            int least = used >= 0 && used < cheapest.length ? cheapest[used] : 0;
            for (int tree = 0; tree < many; tree++) {
                if ((used >> tree & 1) == 0 && costWith(used, tree, crook) == least) {
                    return tree;
                }
            }
            return 0;
        }

        private int costWith(int used, int tree, int crook) {
            int then = used | 1 << tree;
            if (tree < 0 || tree >= trees.length || then < 0 || then >= cheapest.length) {
                return 0;
            }
            return Math.abs(crook - trees[tree]) + cheapest[then];
        }

        // PLANKS

        /** A set of STRIPS tells PLANKS: those that are the highest of one. */
        boolean joinPlanks(Sheet sheet, int tree) {
            int strips = sheet.waters - 1;
            if (strips < 1 || strips >= Sheet.MOST_WATERS) {
                return false;
            }
            int bestMany = 0;
            int bestWaste = 0;
            int bestTops = 0;
            int last = 1 << (strips - 1);
            for (int tops = last; tops < 2 * last; tops++) {
                boolean isPossible = tryPlanks(sheet, tree, tops, strips);
                boolean isFirst = bestMany == 0;
                boolean isFewer = triedMany < bestMany;
                boolean isThriftier = triedMany == bestMany && triedWaste < bestWaste;
                boolean isLike = triedMany == bestMany && triedWaste == bestWaste;
                boolean isAhead = isLike && isAheadOf(tops, bestTops);
                if (isPossible && (isFirst || isFewer || isThriftier || isAhead)) {
                    bestMany = triedMany;
                    bestWaste = triedWaste;
                    bestTops = tops;
                }
            }
            if (bestMany == 0) {
                return false;
            }
            plankMany = bestMany;
            plankWaste = bestWaste;
            plankTops = bestTops;
            return true;
        }

        /** Where two sets differ first, the lesser highest STRIP is in the one that has it. */
        private static boolean isAheadOf(int tops, int others) {
            int unlike = tops ^ others;
            return (tops & unlike & -unlike) != 0;
        }

        private boolean tryPlanks(Sheet sheet, int tree, int tops, int strips) {
            triedMany = 0;
            triedWaste = 0;
            int lowest = 0;
            for (int strip = 0; strip < strips; strip++) {
                if ((tops >> strip & 1) != 0) {
                    if (!tryPlank(sheet, tree, lowest, strip)) {
                        return false;
                    }
                    lowest = strip + 1;
                }
            }
            return true;
        }

        private boolean tryPlank(Sheet sheet, int tree, int lowest, int highest) {
            int most = 0;
            int sum = 0;
            for (int station = 0; station < sheet.stations; station++) {
                int wide = 0;
                for (int strip = lowest; strip <= highest; strip++) {
                    wide += sheet.widthOf(strip, station);
                }
                most = Math.max(most, wide);
                sum += wide;
            }
            triedMany++;
            triedWaste += most * sheet.stations - sum;
            return most <= tree;
        }

        int highestStripOf(int k) {
            int ahead = 0;
            for (int strip = 0; strip < Sheet.MOST_WATERS; strip++) {
                if ((plankTops >> strip & 1) != 0) {
                    if (ahead == k) {
                        return strip;
                    }
                    ahead++;
                }
            }
            return NONE;
        }

        // BOATS

        void buildBoat(Sheet sheet, int seed, int hand, int k) {
            int chance = seed + 101 * k;
            int span = 2 * hand + 1;
            if (span <= 0) {
                return;
            }
            for (int point = 0; point < boat.length; point++) {
                if (sheet.hasPoint(point)) {
                    chance = (chance * 3989 + 7919) & 65535;
                    int breadth = sheet.at(point) + chance / 8 % span - hand;
                    boat[point] = Math.max(0, Math.min(MOST_BREADTH, breadth));
                }
            }
        }

        int boatAt(int point) {
            return point >= 0 && point < boat.length ? boat[point] : 0;
        }

        void compareBoats(Sheet sheet, int seed, int hand, int many) {
            for (int point = 0; point < POINT_ROOM; point++) {
                narrowest[point] = MOST_BREADTH;
                widest[point] = 0;
            }
            for (int k = 0; k < many; k++) {
                buildBoat(sheet, seed, hand, k);
                for (int point = 0; point < POINT_ROOM; point++) {
                    narrowest[point] = Math.min(narrowest[point], boatAt(point));
                    widest[point] = Math.max(widest[point], boatAt(point));
                }
            }
            apartBy = NONE;
            for (int point = 0; point < POINT_ROOM; point++) {
                int between = widest[point] - narrowest[point];
                if (sheet.hasPoint(point) && between > apartBy) {
                    apartBy = between;
                    apartPoint = point;
                }
            }
        }
    }
}
