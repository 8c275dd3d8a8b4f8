import java.util.Arrays;

/** What books say of the days on which things befell; ../shared/DOC.md has the promises. */
public final class WhenItWas {

    public static final int NONE = -1, BAD = -2, NOT = -3, FULL = -4;

    private static final int MOST_THINGS = 12, MOST_BOOKS = 6, MOST_ROWS = 40;
    private static final int MOST_SHEETS = 4, MOST_ITEMS = 40, MOST_BYTES = 40, MOST_DOUBTED = 12;
    private static final int LAST_DAY_OF_KNOWING = 399, LONGEST_PASS = 100;
    private static final int FARTHEST_DAY = 200000, FARTHEST_APART = 100000, FARTHEST_OFF = 1000;
    private static final int GREATEST_TRUST = 9, FIRST_TRUST = 5;

    private static final int NO_DAY = -300000, NO_SPAN = -300001;
    private static final int NO_DIFFERENCE = -500000, NO_BETWEEN = -500001;
    private static final int LEAST_INT = 1 << 31;
    private static final long LEAST_LONG = 1L << 63;

    private static final int NULL = 1, INDEX = 2, CAST = 3, STORE = 4, SIZE = 5;
    private static final int BYTES = 0, SHORTS = 1, INTS = 2, LOST = -1;
    private static final int ITEMS_OF_A_ROW = 5;

    private final Net net = new Net();
    private final Books books = net.books;
    private final Rows rows = net.rows;
    private final Doubt doubt = new Doubt();
    private final Lines lines = new Lines();
    private final Kin kindred = new Kin();
    private final Dates dates = new Dates();
    private final Sheets sheets = new Sheets();
    private int today = 0;
    private int view = NONE;
    private int things = 0;
    private int finding = 0;

    public WhenItWas() {
    }

    // ---- things, books, rows

    public int pass(int n) {
        if (n < 1 || n > LONGEST_PASS || today + n > LAST_DAY_OF_KNOWING) {
            return BAD;
        }
        today += n;
        return today;
    }

    public int thing() {
        if (things >= MOST_THINGS) {
            return FULL;
        }
        things++;
        return things - 1;
    }

    public int book(int least, int greatest) {
        if (!isRange(least, greatest, FARTHEST_OFF)) {
            return BAD;
        }
        return books.open(least, greatest);
    }

    public int trust(int book, int t) {
        if (!isBook(book) || t < 1 || t > GREATEST_TRUST) {
            return BAD;
        }
        int was = books.trust[book];
        books.trust[book] = t;
        return was;
    }

    public int on(int book, int thing, int x, int y) {
        if (!isBook(book) || !isThing(thing) || !isRange(x, y, FARTHEST_DAY)) {
            return BAD;
        }
        return rows.tell(book, thing, NONE, x, y, today);
    }

    public int apart(int book, int thing, int other, int x, int y) {
        if (!isBook(book) || !areTwoThings(thing, other) || !isRange(x, y, FARTHEST_APART)) {
            return BAD;
        }
        return rows.tell(book, thing, other, x, y, today);
    }

    public int read(int s) {
        if (!isSheet(s)) {
            return BAD;
        }
        if (sheets.isLost(s)) {
            return found(NULL);
        }
        int whole = sheets.size[s] / ITEMS_OF_A_ROW;
        for (int r = 0; r < whole; r++) {
            if (tellFromSheet(s, r * ITEMS_OF_A_ROW) < 0) {
                return r;
            }
        }
        return whole;
    }

    public int takeBack(int row) {
        if (!isRow(row)) {
            return BAD;
        }
        if (rows.taken[row] != NONE) {
            return NOT;
        }
        rows.taken[row] = today;
        return 1;
    }

    public int about(int row, int what) {
        if (!isRow(row)) {
            return NO_DAY;
        }
        switch (what) {
            case 0: return rows.book[row];
            case 1: return rows.thing[row];
            case 2: return rows.other[row];
            case 3: return rows.x[row];
            case 4: return rows.y[row];
            case 5: return rows.told[row];
            case 6: return rows.taken[row];
            case 7: return oneIf(rows.isKnown(row, dayOfView()));
            default: return NO_DAY;
        }
    }

    public int asOf(int day) {
        if (day != NONE && (day < 0 || day > today)) {
            return BAD;
        }
        int was = view;
        view = day;
        return was;
    }

    // ---- spans

    public int can(long rows) {
        if (rows >>> this.rows.size != 0) {
            return BAD;
        }
        if ((rows & ~knownRows()) != 0) {
            return NOT;
        }
        return oneIf(net.canHold(rows));
    }

    public int all() {
        return oneIf(net.canHold(knownRows()));
    }

    public int span(int thing, int end) {
        if (!isThing(thing) || !isEnd(end)) {
            return NO_DAY;
        }
        if (!net.solve(knownRows())) {
            return NO_SPAN;
        }
        return net.endOfThing(thing, end);
    }

    public int clock(int book, int end) {
        if (!isBook(book) || !isEnd(end)) {
            return NO_DAY;
        }
        if (!net.solve(knownRows())) {
            return NO_SPAN;
        }
        return net.endOfClock(book, end);
    }

    public int between(int thing, int other, int end) {
        if (!areTwoThings(thing, other) || !isEnd(end)) {
            return NO_DIFFERENCE;
        }
        if (!net.solve(knownRows())) {
            return NO_BETWEEN;
        }
        if (end == 1) {
            net.measureFrom(other);
            return net.mostBehind(other, thing);
        }
        net.measureFrom(thing);
        return -net.mostBehind(thing, other);
    }

    public int led(int thing, int end) {
        if (!isThing(thing) || !isEnd(end)) {
            return BAD;
        }
        if (!net.solve(knownRows())) {
            return NOT;
        }
        return net.stepsToEnd(thing, end == 1);
    }

    public int changed(int thing, int i) {
        if (!isThing(thing) || i < 0) {
            return BAD;
        }
        long was = net.spanKey(thing, rows.knownAsOf(0));
        int day = 0;
        int changes = 0;
        for (int k = 0; k < 2 * MOST_ROWS; k++) {
            day = rows.nextDayOfNews(day);
            if (day == NONE) {
                return NONE;
            }
            long is = net.spanKey(thing, rows.knownAsOf(day));
            if (is != was) {
                if (changes == i) {
                    return day;
                }
                changes++;
            }
            was = is;
        }
        return NONE;
    }

    public int fits(int s) {
        if (!isSheet(s)) {
            return BAD;
        }
        if (sheets.isLost(s)) {
            return found(NULL);
        }
        if (sheets.size[s] < things) {
            return found(INDEX);
        }
        return oneIf(isFitting(s));
    }

    public int room(int s, int book) {
        if (!isSheet(s) || !isBook(book)) {
            return BAD;
        }
        int fitting = fits(s);
        if (fitting < 0) {
            return fitting;
        }
        return fitting == 1 ? roomByDays(s, book) : NOT;
    }

    public int kin(int book, int other, int what) {
        if (!isBook(book) || !isBook(other) || book == other || what < 0 || what > 2) {
            return NO_DIFFERENCE;
        }
        kindred.compare(rows, knownRows(), book, other);
        if (what == 0) {
            return kindred.size;
        }
        if (what == 1) {
            return kindred.most;
        }
        return kindred.size == 0 ? NOT : kindred.number;
    }

    public long hangs(int thing) {
        if (!isThing(thing)) {
            return asLong(BAD);
        }
        long known = knownRows();
        if (!net.canHold(known)) {
            return asLong(NOT);
        }
        long whole = net.spanKey(thing, known);
        long hanging = 0;
        for (int row = 0; row < rows.size; row++) {
            long bit = 1L << row;
            if ((known & bit) != 0 && net.spanKey(thing, known & ~bit) != whole) {
                hanging |= bit;
            }
        }
        return hanging;
    }

    // ---- doubts

    public long doubts() {
        int refusal = lookForDoubts(knownRows());
        return refusal < 0 ? asLong(refusal) : doubt.best;
    }

    public int blamed(int row) {
        if (!isRow(row)) {
            return BAD;
        }
        long known = knownRows();
        if ((known >>> row & 1) == 0) {
            return NOT;
        }
        int refusal = lookForDoubts(known);
        return refusal < 0 ? refusal : doubt.blame[row];
    }

    // ---- orders

    public int ahead(int thing, int other) {
        if (!areTwoThings(thing, other)) {
            return BAD;
        }
        if (!net.solve(knownRows())) {
            return NOT;
        }
        net.measureFrom(other);
        return oneIf(net.mostBehind(other, thing) < 0);
    }

    public long orders() {
        if (!layLines()) {
            return asLong(NOT);
        }
        return lines.waysFrom(0);
    }

    public long share(int thing, int other, int what) {
        if (!areTwoThings(thing, other) || what < 0 || what > 1) {
            return asLong(BAD);
        }
        if (!layLines()) {
            return asLong(NOT);
        }
        long below = lines.waysFrom(0);
        lines.setAhead(thing, other);
        long above = lines.waysFrom(0);
        long divisor = commonDivisor(above, below);
        if (divisor < 1) {
            return 0;
        }
        return (what == 0 ? above : below) / divisor;
    }

    public long first(int thing) {
        if (!isThing(thing)) {
            return asLong(BAD);
        }
        if (!layLines()) {
            return asLong(NOT);
        }
        return lines.before[thing] == 0 ? lines.waysFrom(1 << thing) : 0;
    }

    public int question() {
        if (!layLines()) {
            return NOT;
        }
        return lines.bestPair();
    }

    // ---- calendars

    public int dayOf(int calendar, int day, int month, int year) {
        if (!Calendar.isOne(calendar) || !Calendar.isDate(calendar, day, month, year)) {
            return NO_DAY;
        }
        return Calendar.dayNumber(calendar, day, month, year);
    }

    public int dateOf(int calendar, int day, int what) {
        if (!Calendar.isOne(calendar) || what < 0 || what > 2 || !Calendar.hasDay(calendar, day)) {
            return BAD;
        }
        int year = Calendar.yearWith(calendar, day);
        if (what == 2) {
            return year;
        }
        int month = Calendar.monthWith(calendar, day, year);
        if (what == 1) {
            return month;
        }
        return day - Calendar.dayNumber(calendar, 1, month, year) + 1;
    }

    public int type(int b) {
        if (b < 0 || b > 255) {
            return BAD;
        }
        return dates.append(b);
    }

    public int wipe() {
        int had = dates.length;
        dates.length = 0;
        return had;
    }

    public int fault() {
        return dates.findFault();
    }

    public int said(int book, int thing) {
        if (!isBook(book) || !isThing(thing)) {
            return BAD;
        }
        if (dates.findFault() != NONE) {
            return NOT;
        }
        return rows.tell(book, thing, NONE, dates.from, dates.until, today);
    }

    // ---- sheets

    public int sheet(int s, int type, int n) {
        if (!isSheet(s) || !isType(type) || n > MOST_ITEMS) {
            return BAD;
        }
        if (n < 0) {
            return found(SIZE);
        }
        sheets.renew(s, type, n);
        return n;
    }

    public int lose(int s) {
        if (!isSheet(s)) {
            return BAD;
        }
        if (sheets.isLost(s)) {
            return found(NULL);
        }
        sheets.kind[s] = LOST;
        return sheets.size[s];
    }

    public int put(int s, int type, int i, int v) {
        if (!isSheet(s) || !isType(type)) {
            return BAD;
        }
        int hindrance = sheets.hindrance(s, type, i);
        if (hindrance != 0) {
            return found(hindrance);
        }
        sheets.store(s, i, v);
        return 1;
    }

    public int get(int s, int type, int i) {
        if (!isSheet(s) || !isType(type)) {
            return LEAST_INT;
        }
        int hindrance = sheets.hindrance(s, type, i);
        if (hindrance != 0) {
            found(hindrance);
            return LEAST_INT;
        }
        return sheets.item(s, i);
    }

    public int copy(int s, int i, int t, int j, int n) {
        if (!isSheet(s) || !isSheet(t)) {
            return BAD;
        }
        if (sheets.isLost(s) || sheets.isLost(t)) {
            return found(NULL);
        }
        if (sheets.kind[s] != sheets.kind[t]) {
            return found(STORE);
        }
        if (!sheets.has(s, i, n) || !sheets.has(t, j, n)) {
            return found(INDEX);
        }
        sheets.move(s, i, t, j, n);
        return 1;
    }

    public int write(int s) {
        if (!isSheet(s)) {
            return BAD;
        }
        if (sheets.isLost(s)) {
            return found(NULL);
        }
        if (!net.solve(knownRows())) {
            return NOT;
        }
        int written = Math.min(sheets.size[s], 2 * things);
        for (int i = 0; i < written; i++) {
            sheets.store(s, i, net.endOfThing(i / 2, i % 2));
        }
        return written;
    }

    public int count(int what) {
        switch (what) {
            case 0: return today;
            case 1: return things;
            case 2: return books.size;
            case 3: return rows.size;
            case 4: return Long.bitCount(knownRows());
            case 5: return rows.howManyOn(knownRows());
            case 6: return books.trustTogether();
            case 7: return dates.length;
            case 8: return finding;
            default: return BAD;
        }
    }

    public long digest() {
        long h = 17;
        for (int what = 0; what <= 7; what++) {
            h = 31 * h + count(what);
        }
        for (int row = 0; row < rows.size; row++) {
            for (int what = 0; what <= 7; what++) {
                h = 31 * h + about(row, what);
            }
        }
        h = digestSpans(h);
        h = 31 * h + orders();
        return 31 * h + dates.findFault();
    }

    private long digestSpans(long start) {
        // Solved once for all ends: each call of span() would solve anew.
        boolean can = net.solve(knownRows());
        long h = 31 * start + oneIf(can);
        for (int i = 0; i < 2 * things; i++) {
            h = 31 * h + (can ? net.endOfThing(i / 2, i % 2) : NO_SPAN);
        }
        for (int i = 0; i < 2 * books.size; i++) {
            h = 31 * h + (can ? net.endOfClock(i / 2, i % 2) : NO_SPAN);
        }
        return h;
    }

    // ---- what the calls share

    private boolean isThing(int thing) {
        return thing >= 0 && thing < things;
    }

    private boolean areTwoThings(int thing, int other) {
        return isThing(thing) && isThing(other) && thing != other;
    }

    private boolean isBook(int book) {
        return book >= 0 && book < books.size;
    }

    private boolean isRow(int row) {
        return row >= 0 && row < rows.size;
    }

    private static boolean isSheet(int s) {
        return s >= 0 && s < MOST_SHEETS;
    }

    private static boolean isType(int type) {
        return type >= BYTES && type <= INTS;
    }

    private static boolean isEnd(int end) {
        return end == 0 || end == 1;
    }

    private static boolean isRange(int x, int y, int farthest) {
        return -farthest <= x && x <= y && y <= farthest;
    }

    private static int oneIf(boolean so) {
        return so ? 1 : 0;
    }

    private static long asLong(int refusal) {
        return LEAST_LONG - refusal;
    }

    private static long commonDivisor(long a, long b) {
        long greater = a;
        long lesser = b;
        // A hundred rounds are far more than Euclid needs for numbers up to 12!.
        for (int k = 0; k < 100 && lesser != 0; k++) {
            long rest = greater % lesser;
            greater = lesser;
            lesser = rest;
        }
        return greater;
    }

    private int found(int number) {
        finding = number;
        return -10 - number;
    }

    private int dayOfView() {
        return view == NONE ? today : view;
    }

    private long knownRows() {
        return rows.knownAsOf(dayOfView());
    }

    private int tellFromSheet(int s, int i) {
        int book = sheets.item(s, i);
        int thing = sheets.item(s, i + 1);
        int other = sheets.item(s, i + 2);
        int x = sheets.item(s, i + 3);
        int y = sheets.item(s, i + 4);
        return other == NONE ? on(book, thing, x, y) : apart(book, thing, other, x, y);
    }

    private boolean isFitting(int s) {
        for (int thing = 0; thing < things; thing++) {
            int day = sheets.item(s, thing);
            if (day < -FARTHEST_DAY || day > FARTHEST_DAY) {
                return false;
            }
        }
        return areApartAsTold(s) && areClocksPossible(s);
    }

    private boolean areApartAsTold(int s) {
        long known = knownRows();
        for (int row = 0; row < rows.size; row++) {
            if ((known >>> row & 1) != 0 && rows.other[row] != NONE) {
                int behind = sheets.item(s, rows.thing[row]) - sheets.item(s, rows.other[row]);
                if (behind < rows.x[row] || behind > rows.y[row]) {
                    return false;
                }
            }
        }
        return true;
    }

    private boolean areClocksPossible(int s) {
        for (int book = 0; book < books.size; book++) {
            if (roomByDays(s, book) == 0) {
                return false;
            }
        }
        return true;
    }

    private int roomByDays(int s, int book) {
        long known = knownRows();
        int least = books.least[book];
        int greatest = books.greatest[book];
        for (int row = 0; row < rows.size; row++) {
            if ((known >>> row & 1) != 0 && rows.isOnBy(row, book)) {
                int day = sheets.item(s, rows.thing[row]);
                least = Math.max(least, rows.x[row] - day);
                greatest = Math.min(greatest, rows.y[row] - day);
            }
        }
        return Math.max(0, greatest - least + 1);
    }

    /** A refusal, or 0: the doubt is then of these rows, and empty if all of them can be. */
    private int lookForDoubts(long known) {
        doubt.clear();
        if (net.canHold(known)) {
            return 0;
        }
        if (Long.bitCount(known) > MOST_DOUBTED) {
            return FULL;
        }
        doubt.search(net, known);
        return 0;
    }

    /** Lays down which thing is surely ahead of which; false: not all rows can be. */
    private boolean layLines() {
        if (!net.solve(knownRows())) {
            return false;
        }
        lines.clear(things);
        for (int other = 0; other < things; other++) {
            net.measureFrom(other);
            for (int thing = 0; thing < things; thing++) {
                if (net.mostBehind(other, thing) < 0) {
                    lines.setAhead(thing, other);
                }
            }
        }
        return true;
    }

    private static final class Books {
        final int[] least = new int[MOST_BOOKS];
        final int[] greatest = new int[MOST_BOOKS];
        final int[] trust = new int[MOST_BOOKS];
        int size = 0;

        int open(int from, int to) {
            if (size >= MOST_BOOKS) {
                return FULL;
            }
            least[size] = from;
            greatest[size] = to;
            trust[size] = FIRST_TRUST;
            size++;
            return size - 1;
        }

        int trustTogether() {
            int sum = 0;
            for (int book = 0; book < size; book++) {
                sum += trust[book];
            }
            return sum;
        }
    }

    private static final class Rows {
        static final int UNSAID = LEAST_INT;

        final int[] book = new int[MOST_ROWS];
        final int[] thing = new int[MOST_ROWS];
        final int[] other = new int[MOST_ROWS];
        final int[] x = new int[MOST_ROWS];
        final int[] y = new int[MOST_ROWS];
        final int[] told = new int[MOST_ROWS];
        final int[] taken = new int[MOST_ROWS];
        int size = 0;

        int tell(int ofBook, int ofThing, int ofOther, int from, int to, int day) {
            if (size >= MOST_ROWS) {
                return FULL;
            }
            book[size] = ofBook;
            thing[size] = ofThing;
            other[size] = ofOther;
            x[size] = from;
            y[size] = to;
            told[size] = day;
            taken[size] = NONE;
            size++;
            return size - 1;
        }

        boolean isKnown(int row, int day) {
            return told[row] <= day && (taken[row] == NONE || taken[row] > day);
        }

        boolean isOnBy(int row, int ofBook) {
            return other[row] == NONE && book[row] == ofBook;
        }

        long knownAsOf(int day) {
            long known = 0;
            for (int row = 0; row < size; row++) {
                if (isKnown(row, day)) {
                    known |= 1L << row;
                }
            }
            return known;
        }

        int howManyOn(long set) {
            int sum = 0;
            for (int row = 0; row < size; row++) {
                if ((set >>> row & 1) != 0 && other[row] == NONE) {
                    sum++;
                }
            }
            return sum;
        }

        /** The first day behind the given one on which a row was told or taken back; NONE. */
        int nextDayOfNews(int day) {
            int next = NONE;
            for (int row = 0; row < size; row++) {
                next = nearer(next, told[row], day);
                next = nearer(next, taken[row], day);
            }
            return next;
        }

        private static int nearer(int next, int candidate, int day) {
            boolean isBetter = candidate > day && (next == NONE || candidate < next);
            return isBetter ? candidate : next;
        }

        /** The day that a book says of a thing by its latest row of the set, if it says one day alone. */
        int exactDay(long set, int ofBook, int ofThing) {
            for (int row = size - 1; row >= 0; row--) {
                if ((set >>> row & 1) != 0 && isOnBy(row, ofBook) && thing[row] == ofThing) {
                    return x[row] == y[row] ? x[row] : UNSAID;
                }
            }
            return UNSAID;
        }
    }

    /**
     * Rows as bounds on differences of two nodes. A clock's node stands for what it is off by with
     * the sign turned: by that a row ON bounds a difference as well, and one way of solving serves all.
     */
    private static final class Net {
        static final int NODES = MOST_THINGS + MOST_BOOKS;
        static final int UNREACHED = 1000000000;

        final Rows rows = new Rows();
        final Books books = new Books();
        final int[] from = new int[MOST_ROWS];
        final int[] to = new int[MOST_ROWS];
        final int[] x = new int[MOST_ROWS];
        final int[] y = new int[MOST_ROWS];
        int size = 0;
        final int[] floor = new int[NODES];
        final int[] ceiling = new int[NODES];
        final int[] most = new int[NODES];
        // The least values with the sign turned, so that they sink as the greatest ones do.
        final int[] leastTurned = new int[NODES];
        final int[] reach = new int[NODES];
        final int[] nextReach = new int[NODES];

        boolean canHold(long set) {
            load(set);
            System.arraycopy(ceiling, 0, most, 0, NODES);
            if (!settle(most, true)) {
                return false;
            }
            for (int node = 0; node < NODES; node++) {
                if (most[node] < floor[node]) {
                    return false;
                }
            }
            return true;
        }

        boolean solve(long set) {
            if (!canHold(set)) {
                return false;
            }
            turnFloorInto(leastTurned);
            return settle(leastTurned, false);
        }

        int endOfThing(int thing, int end) {
            return end == 1 ? most[thing] : -leastTurned[thing];
        }

        int endOfClock(int book, int end) {
            int node = MOST_THINGS + book;
            return end == 1 ? leastTurned[node] : -most[node];
        }

        /** One number for a thing's span by a set of rows, or for that they cannot all be. */
        long spanKey(int thing, long set) {
            if (!solve(set)) {
                return LEAST_LONG;
            }
            return endOfThing(thing, 0) * 1000000L + endOfThing(thing, 1);
        }

        /** Makes ready for mostBehind() of the same node; the net has been solved. */
        void measureFrom(int node) {
            Arrays.fill(reach, UNREACHED);
            reach[node] = 0;
            settle(reach, true);
        }

        int mostBehind(int node, int target) {
            int byAllDays = most[target] + leastTurned[node];
            return Math.min(reach[target], byAllDays);
        }

        /** The fewest steps along rows by which an end comes out; the net has been solved. */
        int stepsToEnd(int node, boolean upward) {
            if (upward) {
                System.arraycopy(ceiling, 0, reach, 0, NODES);
            } else {
                turnFloorInto(reach);
            }
            int end = upward ? most[node] : leastTurned[node];
            for (int steps = 0; steps < NODES; steps++) {
                if (reach[node] == end) {
                    return steps;
                }
                stepOnce(upward);
            }
            return NODES;
        }

        private void turnFloorInto(int[] values) {
            for (int node = 0; node < NODES; node++) {
                values[node] = -floor[node];
            }
        }

        private void load(long set) {
            Arrays.fill(floor, -FARTHEST_DAY);
            Arrays.fill(ceiling, FARTHEST_DAY);
            for (int book = 0; book < books.size; book++) {
                floor[MOST_THINGS + book] = -books.greatest[book];
                ceiling[MOST_THINGS + book] = -books.least[book];
            }
            size = 0;
            for (int row = 0; row < rows.size; row++) {
                if ((set >>> row & 1) != 0) {
                    addRow(row);
                }
            }
        }

        private void addRow(int row) {
            int other = rows.other[row];
            from[size] = other == NONE ? MOST_THINGS + rows.book[row] : other;
            to[size] = rows.thing[row];
            x[size] = rows.x[row];
            y[size] = rows.y[row];
            size++;
        }

        /** Lowers values until no row lowers one; false: rows lower them round and round. */
        private boolean settle(int[] values, boolean upward) {
            // No way without a circle has more steps than rows, or than nodes less one.
            int sweeps = Math.min(size, NODES - 1) + 1;
            for (int k = 0; k < sweeps; k++) {
                if (!sweep(values, upward)) {
                    return true;
                }
            }
            return false;
        }

        private boolean sweep(int[] values, boolean upward) {
            boolean lowered = false;
            for (int r = 0; r < size; r++) {
                int a = from[r];
                int b = to[r];
                int there = upward ? y[r] : -x[r];
                int back = upward ? -x[r] : y[r];
                if (values[a] != UNREACHED && values[a] + there < values[b]) {
                    values[b] = values[a] + there;
                    lowered = true;
                }
                if (values[b] != UNREACHED && values[b] + back < values[a]) {
                    values[a] = values[b] + back;
                    lowered = true;
                }
            }
            return lowered;
        }

        private void stepOnce(boolean upward) {
            // Written aside, so that one step does not build on another of the same round.
            System.arraycopy(reach, 0, nextReach, 0, NODES);
            for (int r = 0; r < size; r++) {
                int a = from[r];
                int b = to[r];
                nextReach[b] = Math.min(nextReach[b], reach[a] + (upward ? y[r] : -x[r]));
                nextReach[a] = Math.min(nextReach[a], reach[b] + (upward ? -x[r] : y[r]));
            }
            System.arraycopy(nextReach, 0, reach, 0, NODES);
        }
    }

    /** Looks for the fewest rows without which the rest can be. */
    private static final class Doubt {
        final int[] candidates = new int[MOST_DOUBTED];
        int size = 0;
        final int[] blame = new int[MOST_ROWS];
        long best = 0;
        int bestTrust = 0;

        void clear() {
            Arrays.fill(blame, 0);
            best = 0;
            bestTrust = 0;
            size = 0;
        }

        /** Begins with a cleared one. */
        void search(Net net, long known) {
            for (int row = 0; row < MOST_ROWS; row++) {
                if ((known >>> row & 1) != 0 && size < MOST_DOUBTED) {
                    candidates[size] = row;
                    size++;
                }
            }
            for (int fewest = 1; fewest <= size && best == 0; fewest++) {
                tryAllOfSize(net, known, fewest);
            }
        }

        private void tryAllOfSize(Net net, long known, int fewest) {
            // Picks ascend as the sets of rows do, so of like ones the first is the least as bits.
            for (int picks = 1; picks < 1 << size; picks++) {
                if (Integer.bitCount(picks) == fewest) {
                    long set = rowsOf(picks);
                    if (net.canHold(known & ~set)) {
                        keep(set, trustOf(net, picks));
                        blameAll(picks);
                    }
                }
            }
        }

        private void keep(long set, int trust) {
            if (best == 0 || trust < bestTrust) {
                best = set;
                bestTrust = trust;
            }
        }

        private long rowsOf(int picks) {
            long set = 0;
            for (int i = 0; i < size; i++) {
                if ((picks >>> i & 1) != 0) {
                    set |= 1L << candidates[i];
                }
            }
            return set;
        }

        private int trustOf(Net net, int picks) {
            int sum = 0;
            for (int i = 0; i < size; i++) {
                if ((picks >>> i & 1) != 0) {
                    sum += net.books.trust[net.rows.book[candidates[i]]];
                }
            }
            return sum;
        }

        private void blameAll(int picks) {
            for (int i = 0; i < size; i++) {
                if ((picks >>> i & 1) != 0) {
                    blame[candidates[i]]++;
                }
            }
        }
    }

    /** The orders of things. All counts are at most 12!, which an int holds. */
    private static final class Lines {
        static final int SETS = 1 << MOST_THINGS;

        final int[] before = new int[MOST_THINGS];
        final int[] ways = new int[SETS];
        final int[] waysOn = new int[SETS];
        final int[] pairs = new int[MOST_THINGS * MOST_THINGS];
        int size = 0;

        void clear(int things) {
            size = things;
            Arrays.fill(before, 0);
        }

        void setAhead(int thing, int other) {
            before[other] |= 1 << thing;
        }

        /** In how many ways the orders go on, once a set of things stands. */
        int waysFrom(int start) {
            int whole = (1 << size) - 1;
            for (int set = start; set <= whole; set++) {
                ways[set] = 0;
            }
            ways[start] = 1;
            for (int set = start; set < whole; set++) {
                if (ways[set] != 0) {
                    for (int thing = 0; thing < size; thing++) {
                        if (mayFollow(thing, set)) {
                            ways[set | 1 << thing] += ways[set];
                        }
                    }
                }
            }
            return ways[whole];
        }

        int bestPair() {
            int total = waysFrom(0);
            countWaysOn();
            countPairs();
            int best = NONE;
            int bestWorst = 0;
            for (int a = 0; a < size; a++) {
                for (int b = a + 1; b < size; b++) {
                    int ahead = pairs[a * MOST_THINGS + b];
                    int worst = Math.max(ahead, total - ahead);
                    if (!isSure(a, b) && (best == NONE || worst < bestWorst)) {
                        best = 100 * a + b;
                        bestWorst = worst;
                    }
                }
            }
            return best;
        }

        private boolean isSure(int a, int b) {
            return (before[b] >>> a & 1) != 0 || (before[a] >>> b & 1) != 0;
        }

        private boolean mayFollow(int thing, int set) {
            return (set >>> thing & 1) == 0 && (before[thing] & ~set) == 0;
        }

        private void countWaysOn() {
            int whole = (1 << size) - 1;
            waysOn[whole] = 1;
            for (int set = whole - 1; set >= 0; set--) {
                int sum = 0;
                for (int thing = 0; thing < size; thing++) {
                    if (mayFollow(thing, set)) {
                        sum += waysOn[set | 1 << thing];
                    }
                }
                waysOn[set] = sum;
            }
        }

        /** Of each pair, the lesser first: in how many orders the lesser comes ahead. */
        private void countPairs() {
            Arrays.fill(pairs, 0);
            for (int set = 0; set < 1 << size; set++) {
                if (ways[set] != 0) {
                    for (int thing = 0; thing < size; thing++) {
                        if (mayFollow(thing, set)) {
                            addToPairs(set, thing, ways[set] * waysOn[set | 1 << thing]);
                        }
                    }
                }
            }
        }

        private void addToPairs(int set, int thing, int orders) {
            for (int lesser = 0; lesser < thing; lesser++) {
                if ((set >>> lesser & 1) != 0) {
                    pairs[lesser * MOST_THINGS + thing] += orders;
                }
            }
        }
    }

    /** Compares what two books say exactly of the same things. */
    private static final class Kin {
        final int[] differences = new int[MOST_THINGS];
        int size = 0;
        int most = 0;
        int number = 0;

        void compare(Rows rows, long known, int book, int other) {
            size = 0;
            most = 0;
            number = 0;
            for (int thing = 0; thing < MOST_THINGS; thing++) {
                int one = rows.exactDay(known, book, thing);
                int two = rows.exactDay(known, other, thing);
                if (one != Rows.UNSAID && two != Rows.UNSAID) {
                    differences[size] = two - one;
                    size++;
                }
            }
            for (int i = 0; i < size; i++) {
                weigh(differences[i]);
            }
        }

        private void weigh(int difference) {
            int same = 0;
            for (int i = 0; i < size; i++) {
                if (differences[i] == difference) {
                    same++;
                }
            }
            if (same > most || same == most && difference < number) {
                most = same;
                number = difference;
            }
        }
    }

    private static final class Calendar {
        static final int LAST_YEAR = 600, MONTHS = 12;
        private static final int[] MONTH_DAYS = {31, 28, 31, 30, 31, 30, 31, 31, 30, 31, 30, 31};
        private static final int[] DAYS_BEFORE_MONTH = {0, 31, 59, 90, 120, 151, 181, 212, 243, 273, 304, 334};
        // The day of 1.1.1 in each calendar, by which 1.3.200 is day 0 in both.
        private static final int[] FIRST_DAY = {-72744, -72742};

        static boolean isOne(int calendar) {
            return calendar == 0 || calendar == 1;
        }

        static boolean isDate(int calendar, int day, int month, int year) {
            if (year < 1 || year > LAST_YEAR || month < 1 || month > MONTHS) {
                return false;
            }
            int leapDay = month == 2 && isLeap(calendar, year) ? 1 : 0;
            return day >= 1 && day <= MONTH_DAYS[month - 1] + leapDay;
        }

        static int dayNumber(int calendar, int day, int month, int year) {
            int leapDay = month > 2 && isLeap(calendar, year) ? 1 : 0;
            return FIRST_DAY[calendar] + 365 * (year - 1) + leapsUpTo(calendar, year - 1)
                    + DAYS_BEFORE_MONTH[month - 1] + leapDay + day - 1;
        }

        static boolean hasDay(int calendar, int day) {
            return day >= FIRST_DAY[calendar] && day <= dayNumber(calendar, 31, 12, LAST_YEAR);
        }

        static int yearWith(int calendar, int day) {
            // No year is longer than 366 days: the guess is never too late.
            int year = (day - FIRST_DAY[calendar]) / 366 + 1;
            while (year < LAST_YEAR && dayNumber(calendar, 1, 1, year + 1) <= day) {
                year++;
            }
            return year;
        }

        static int monthWith(int calendar, int day, int year) {
            int month = 1;
            while (month < MONTHS && dayNumber(calendar, 1, month + 1, year) <= day) {
                month++;
            }
            return month;
        }

        private static boolean isLeap(int calendar, int year) {
            return year % 4 == 0 && (calendar == 0 || year % 100 != 0 || year % 400 == 0);
        }

        private static int leapsUpTo(int calendar, int year) {
            return calendar == 0 ? year / 4 : year / 4 - year / 100 + year / 400;
        }
    }

    /** A text of one date, or of two with a dash between them. */
    private static final class Dates {
        static final int END = -1;

        final int[] bytes = new int[MOST_BYTES];
        int length = 0;
        int from = 0;
        int until = 0;
        private int place = 0;
        private int number = 0;
        private int dayRead = 0;

        int append(int b) {
            if (length >= MOST_BYTES) {
                return FULL;
            }
            bytes[length] = b;
            length++;
            return length;
        }

        /** NONE: from and until are then the days that the text tells. */
        int findFault() {
            place = 0;
            int wrong = readDate();
            if (wrong != NONE) {
                return wrong;
            }
            from = dayRead;
            until = dayRead;
            if (place == length) {
                return NONE;
            }
            if (signHere() != '-') {
                return place;
            }
            place++;
            return readSecond();
        }

        private int readSecond() {
            int start = place;
            int wrong = readDate();
            if (wrong != NONE) {
                return wrong;
            }
            if (dayRead < from) {
                return start;
            }
            until = dayRead;
            return place == length ? NONE : place;
        }

        private int readDate() {
            int start = place;
            int wrong = readNumber(2, 31);
            int day = number;
            if (wrong == NONE) {
                wrong = readDot();
            }
            if (wrong == NONE) {
                wrong = readNumber(2, Calendar.MONTHS);
            }
            int month = number;
            if (wrong == NONE) {
                wrong = readDot();
            }
            if (wrong == NONE) {
                wrong = readNumber(3, Calendar.LAST_YEAR);
            }
            if (wrong != NONE) {
                return wrong;
            }
            return readLetter(start, day, month, number);
        }

        private int readLetter(int start, int day, int month, int year) {
            int calendar = signHere() - 'a';
            if (!Calendar.isOne(calendar)) {
                return place;
            }
            place++;
            if (!Calendar.isDate(calendar, day, month, year)) {
                return start;
            }
            dayRead = Calendar.dayNumber(calendar, day, month, year);
            return NONE;
        }

        private int readDot() {
            if (signHere() != '.') {
                return place;
            }
            place++;
            return NONE;
        }

        private int readNumber(int mostFigures, int greatest) {
            int start = place;
            number = 0;
            for (int k = 0; k < mostFigures && isFigure(signHere()); k++) {
                number = 10 * number + signHere() - '0';
                place++;
            }
            // With no figure at all the fault is the byte that stands there: the same place.
            return number < 1 || number > greatest ? start : NONE;
        }

        private static boolean isFigure(int sign) {
            return sign >= '0' && sign <= '9';
        }

        private int signHere() {
            return place < length ? bytes[place] : END;
        }
    }

    /** All sheets in one row of items, each with a part of its own. */
    private static final class Sheets {
        final int[] kind = {LOST, LOST, LOST, LOST};
        final int[] size = new int[MOST_SHEETS];
        private final int[] items = new int[MOST_SHEETS * MOST_ITEMS];

        boolean isLost(int s) {
            return kind[s] == LOST;
        }

        void renew(int s, int type, int n) {
            kind[s] = type;
            size[s] = n;
            for (int i = 0; i < MOST_ITEMS; i++) {
                items[s * MOST_ITEMS + i] = 0;
            }
        }

        /** The finding that keeps an item from being used, or 0. */
        int hindrance(int s, int type, int i) {
            if (isLost(s)) {
                return NULL;
            }
            if (kind[s] != type) {
                return CAST;
            }
            return i < 0 || i >= size[s] ? INDEX : 0;
        }

        boolean has(int s, int i, int n) {
            return i >= 0 && n >= 0 && n <= size[s] && i <= size[s] - n;
        }

        int item(int s, int i) {
            return items[s * MOST_ITEMS + i];
        }

        void store(int s, int i, int v) {
            items[s * MOST_ITEMS + i] = narrowed(kind[s], v);
        }

        void move(int s, int i, int t, int j, int n) {
            System.arraycopy(items, s * MOST_ITEMS + i, items, t * MOST_ITEMS + j, n);
        }

        private static int narrowed(int type, int v) {
            if (type == BYTES) {
                return (byte) v;
            }
            return type == SHORTS ? (short) v : v;
        }
    }
}
