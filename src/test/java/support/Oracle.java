import java.math.BigInteger;
import java.util.ArrayList;
import java.util.Arrays;
import java.util.GregorianCalendar;
import java.util.HashMap;
import java.util.List;
import java.util.Map;
import java.util.TimeZone;
import java.util.TreeMap;

/**
 * The document once more, by other means than the class uses: all pairs of nodes instead of one
 * source, walks weighed together with their steps, orders by remembered sets, calendars by the library.
 */
final class Oracle {
    static final int NONE = -1, BAD = -2, NOT = -3, FULL = -4;
    private static final long FAR = 1L << 50;
    private static final long STEP_SCALE = 1000;

    private record Row(int book, int thing, int other, int x, int y, int told, int[] taken) {
    }

    private record Book(int least, int greatest, int[] trust) {
    }

    private int today = 0;
    private int view = NONE;
    private int things = 0;
    private int finding = 0;
    private final List<Book> books = new ArrayList<>();
    private final List<Row> rows = new ArrayList<>();
    private final StringBuilder text = new StringBuilder();
    private final Object[] sheets = new Object[4];
    private int saidFrom;
    private int saidTo;

    // ---- things, books, rows

    int pass(int n) {
        if (n < 1 || n > 100 || today + n > 399) return BAD;
        return today += n;
    }

    int thing() {
        return things == 12 ? FULL : things++;
    }

    int book(int least, int greatest) {
        if (least < -1000 || least > 1000 || greatest < -1000 || greatest > 1000 || least > greatest) return BAD;
        if (books.size() == 6) return FULL;
        books.add(new Book(least, greatest, new int[] {5}));
        return books.size() - 1;
    }

    int trust(int book, int t) {
        if (noBook(book) || t < 1 || t > 9) return BAD;
        int was = books.get(book).trust[0];
        books.get(book).trust[0] = t;
        return was;
    }

    int on(int book, int thing, int x, int y) {
        if (noBook(book) || noThing(thing) || Math.abs((long) x) > 200000 || Math.abs((long) y) > 200000 || x > y) return BAD;
        return tell(book, thing, NONE, x, y);
    }

    int apart(int book, int thing, int other, int x, int y) {
        if (noBook(book) || noThing(thing) || noThing(other) || thing == other) return BAD;
        if (Math.abs((long) x) > 100000 || Math.abs((long) y) > 100000 || x > y) return BAD;
        return tell(book, thing, other, x, y);
    }

    private int tell(int book, int thing, int other, int x, int y) {
        if (rows.size() == 40) return FULL;
        rows.add(new Row(book, thing, other, x, y, today, new int[] {NONE}));
        return rows.size() - 1;
    }

    int read(int s) {
        if (noSheet(s)) return BAD;
        if (sheets[s] == null) return find(1);
        int told = 0;
        for (int i = 0; i + 5 <= sizeOf(s); i += 5) {
            int other = item(s, i + 2);
            int answer = other == -1 ? on(item(s, i), item(s, i + 1), item(s, i + 3), item(s, i + 4))
                    : apart(item(s, i), item(s, i + 1), other, item(s, i + 3), item(s, i + 4));
            if (answer < 0) break;
            told++;
        }
        return told;
    }

    int takeBack(int row) {
        if (noRow(row)) return BAD;
        if (rows.get(row).taken[0] != NONE) return NOT;
        rows.get(row).taken[0] = today;
        return 1;
    }

    int about(int row, int what) {
        if (noRow(row) || what < 0 || what > 7) return -300000;
        Row r = rows.get(row);
        int[] answers = {r.book, r.thing, r.other, r.x, r.y, r.told, r.taken[0], isKnown(r, viewDay()) ? 1 : 0};
        return answers[what];
    }

    int asOf(int day) {
        if (day < -1 || day > today) return BAD;
        int was = view;
        view = day;
        return was;
    }

    // ---- spans

    int can(long set) {
        List<Row> chosen = new ArrayList<>();
        for (int bit = 0; bit < 64; bit++) {
            if ((set >>> bit & 1) == 1 && bit >= rows.size()) return BAD;
        }
        for (int bit = 0; bit < rows.size(); bit++) {
            if ((set >>> bit & 1) == 1) {
                if (!isKnown(rows.get(bit), viewDay())) return NOT;
                chosen.add(rows.get(bit));
            }
        }
        return close(chosen) == null ? 0 : 1;
    }

    int all() {
        return close(known(viewDay())) == null ? 0 : 1;
    }

    int span(int thing, int end) {
        if (noThing(thing) || end < 0 || end > 1) return -300000;
        long[][] d = close(known(viewDay()));
        if (d == null) return -300001;
        return (int) (end == 1 ? d[0][1 + thing] : -d[1 + thing][0]);
    }

    int clock(int book, int end) {
        if (noBook(book) || end < 0 || end > 1) return -300000;
        long[][] d = close(known(viewDay()));
        if (d == null) return -300001;
        int node = 1 + things + book;
        return (int) (end == 0 ? -d[0][node] : d[node][0]);
    }

    int between(int thing, int other, int end) {
        if (noThing(thing) || noThing(other) || thing == other || end < 0 || end > 1) return -500000;
        long[][] d = close(known(viewDay()));
        if (d == null) return -500001;
        return (int) (end == 1 ? d[1 + other][1 + thing] : -d[1 + thing][1 + other]);
    }

    int led(int thing, int end) {
        if (noThing(thing) || end < 0 || end > 1) return BAD;
        if (close(known(viewDay())) == null) return NOT;
        long[][] d = weigh(known(viewDay()), STEP_SCALE, 1);
        return (int) Math.floorMod(end == 1 ? d[0][1 + thing] : d[1 + thing][0], STEP_SCALE);
    }

    int changed(int thing, int i) {
        if (noThing(thing) || i < 0) return BAD;
        List<Integer> days = new ArrayList<>();
        for (int day = 1; day <= today; day++) {
            if (!spanText(thing, known(day)).equals(spanText(thing, known(day - 1)))) days.add(day);
        }
        return i < days.size() ? days.get(i) : NONE;
    }

    int fits(int s) {
        if (noSheet(s)) return BAD;
        if (sheets[s] == null) return find(1);
        if (sizeOf(s) < things) return find(2);
        for (int t = 0; t < things; t++) {
            if (item(s, t) < -200000 || item(s, t) > 200000) return 0;
        }
        for (Row r : known(viewDay())) {
            if (r.other >= 0) {
                int behind = item(s, r.thing) - item(s, r.other);
                if (behind < r.x || behind > r.y) return 0;
            }
        }
        for (int b = 0; b < books.size(); b++) {
            if (roomOf(s, b) == 0) return 0;
        }
        return 1;
    }

    int room(int s, int book) {
        if (noSheet(s) || noBook(book)) return BAD;
        int fitting = fits(s);
        return fitting == 1 ? roomOf(s, book) : fitting == 0 ? NOT : fitting;
    }

    /** Tries each number that the clock may be off by. */
    private int roomOf(int s, int book) {
        int room = 0;
        for (int off = books.get(book).least; off <= books.get(book).greatest; off++) {
            boolean is = true;
            for (Row r : known(viewDay())) {
                if (r.other == NONE && r.book == book) {
                    int shown = item(s, r.thing) + off;
                    is &= r.x <= shown && shown <= r.y;
                }
            }
            if (is) room++;
        }
        return room;
    }

    int kin(int book, int other, int what) {
        if (noBook(book) || noBook(other) || book == other || what < 0 || what > 2) return -500000;
        TreeMap<Integer, Integer> tally = new TreeMap<>();
        int both = 0;
        for (int t = 0; t < things; t++) {
            Row one = latestOn(book, t);
            Row two = latestOn(other, t);
            if (one != null && two != null && one.x == one.y && two.x == two.y) {
                both++;
                tally.merge(two.x - one.x, 1, Integer::sum);
            }
        }
        int most = 0;
        int number = 0;
        for (Map.Entry<Integer, Integer> e : tally.entrySet()) {
            if (e.getValue() > most) {
                most = e.getValue();
                number = e.getKey();
            }
        }
        return what == 0 ? both : what == 1 ? most : both == 0 ? NOT : number;
    }

    private Row latestOn(int book, int thing) {
        Row latest = null;
        for (Row r : known(viewDay())) {
            if (r.book == book && r.thing == thing && r.other == NONE) latest = r;
        }
        return latest;
    }

    long hangs(int thing) {
        if (noThing(thing)) return Check.asLong(BAD);
        List<Row> known = known(viewDay());
        if (close(known) == null) return Check.asLong(NOT);
        long bits = 0;
        for (Row r : known) {
            List<Row> rest = new ArrayList<>(known);
            rest.removeIf(other -> other == r);
            if (!spanText(thing, rest).equals(spanText(thing, known))) bits |= 1L << indexOf(r);
        }
        return bits;
    }

    // ---- doubts

    private record Doubts(long best, Map<Integer, Integer> blame) {
    }

    private Doubts search() {
        List<Row> known = known(viewDay());
        int n = known.size();
        int fewest = Integer.MAX_VALUE;
        int leastTrust = 0;
        long best = 0;
        Map<Integer, Integer> blame = new HashMap<>();
        Integer[] sets = new Integer[1 << n];
        for (int i = 0; i < sets.length; i++) sets[i] = i;
        Arrays.sort(sets, (a, b) -> Integer.compare(Integer.bitCount(a), Integer.bitCount(b)));
        for (int set : sets) {
            if (Integer.bitCount(set) > fewest) break;
            List<Row> rest = new ArrayList<>();
            int trust = 0;
            long bits = 0;
            for (int i = 0; i < n; i++) {
                if ((set >>> i & 1) == 0) {
                    rest.add(known.get(i));
                } else {
                    trust += books.get(known.get(i).book).trust[0];
                    bits |= 1L << indexOf(known.get(i));
                }
            }
            if (close(rest) == null) continue;
            boolean isFirst = fewest == Integer.MAX_VALUE;
            fewest = Integer.bitCount(set);
            if (isFirst || trust < leastTrust || trust == leastTrust && bits < best) {
                leastTrust = trust;
                best = bits;
            }
            for (int row = 0; row < rows.size(); row++) {
                if ((bits >>> row & 1) == 1) blame.merge(row, 1, Integer::sum);
            }
        }
        return new Doubts(best, blame);
    }

    long doubts() {
        if (all() == 1) return 0;
        if (known(viewDay()).size() > 12) return Check.asLong(FULL);
        return search().best;
    }

    int blamed(int row) {
        if (noRow(row)) return BAD;
        if (!isKnown(rows.get(row), viewDay())) return NOT;
        if (all() == 1) return 0;
        if (known(viewDay()).size() > 12) return FULL;
        return search().blame.getOrDefault(row, 0);
    }

    // ---- orders

    int ahead(int thing, int other) {
        if (noThing(thing) || noThing(other) || thing == other) return BAD;
        boolean[][] sure = sure();
        return sure == null ? NOT : sure[thing][other] ? 1 : 0;
    }

    long orders() {
        boolean[][] sure = sure();
        return sure == null ? Check.asLong(NOT) : ways(sure, (1 << things) - 1, new HashMap<>());
    }

    long share(int thing, int other, int what) {
        if (noThing(thing) || noThing(other) || thing == other || what < 0 || what > 1) return Check.asLong(BAD);
        boolean[][] sure = sure();
        if (sure == null) return Check.asLong(NOT);
        long below = ways(sure, (1 << things) - 1, new HashMap<>());
        long above = waysWith(sure, thing, other);
        long divisor = BigInteger.valueOf(above).gcd(BigInteger.valueOf(below)).longValue();
        return (what == 0 ? above : below) / divisor;
    }

    long first(int thing) {
        if (noThing(thing)) return Check.asLong(BAD);
        boolean[][] sure = sure();
        if (sure == null) return Check.asLong(NOT);
        for (int t = 0; t < things; t++) {
            if (sure[t][thing]) return 0;
        }
        return ways(sure, (1 << things) - 1 & ~(1 << thing), new HashMap<>());
    }

    int question() {
        boolean[][] sure = sure();
        if (sure == null) return NOT;
        long total = ways(sure, (1 << things) - 1, new HashMap<>());
        long fewest = Long.MAX_VALUE;
        int best = NONE;
        for (int a = 0; a < things; a++) {
            for (int b = a + 1; b < things; b++) {
                if (sure[a][b] || sure[b][a]) continue;
                long ahead = waysWith(sure, a, b);
                long worst = Math.max(ahead, total - ahead);
                if (worst < fewest) {
                    fewest = worst;
                    best = 100 * a + b;
                }
            }
        }
        return best;
    }

    private boolean[][] sure() {
        long[][] d = close(known(viewDay()));
        if (d == null) return null;
        boolean[][] sure = new boolean[things][things];
        for (int a = 0; a < things; a++) {
            for (int b = 0; b < things; b++) {
                // The least by which b is behind a.
                sure[a][b] = -d[1 + b][1 + a] >= 1;
            }
        }
        return sure;
    }

    private long waysWith(boolean[][] sure, int thing, int other) {
        if (thing == other) return 0;
        boolean[][] more = new boolean[things][];
        for (int t = 0; t < things; t++) more[t] = sure[t].clone();
        more[thing][other] = true;
        return ways(more, (1 << things) - 1, new HashMap<>());
    }

    /** The last of the things left is chosen first. */
    private long ways(boolean[][] sure, int left, Map<Integer, Long> seen) {
        if (left == 0) return 1;
        Long before = seen.get(left);
        if (before != null) return before;
        long sum = 0;
        for (int last = 0; last < things; last++) {
            if ((left >>> last & 1) == 0) continue;
            boolean may = true;
            for (int t = 0; t < things; t++) may &= !((left >>> t & 1) == 1 && sure[last][t]);
            if (may) sum += ways(sure, left & ~(1 << last), seen);
        }
        seen.put(left, sum);
        return sum;
    }

    // ---- calendars

    private static GregorianCalendar calendar(int calendar) {
        GregorianCalendar c = new GregorianCalendar(TimeZone.getTimeZone("UTC"));
        c.setGregorianChange(new java.util.Date(calendar == 0 ? Long.MAX_VALUE : Long.MIN_VALUE));
        c.clear();
        c.setLenient(true);
        return c;
    }

    private static long millis(int calendar, int day, int month, int year) {
        GregorianCalendar c = calendar(calendar);
        c.set(year, month - 1, day);
        return c.getTimeInMillis();
    }

    int dayOf(int calendar, int day, int month, int year) {
        if (calendar < 0 || calendar > 1 || year < 1 || year > 600 || month < 1 || month > 12 || day < 1 || day > 31) return -300000;
        GregorianCalendar c = calendar(calendar);
        c.set(year, month - 1, day);
        c.getTimeInMillis();
        if (c.get(GregorianCalendar.MONTH) != month - 1) return -300000;
        return (int) ((c.getTimeInMillis() - millis(calendar, 1, 3, 200)) / 86400000L);
    }

    int dateOf(int calendar, int day, int what) {
        if (calendar < 0 || calendar > 1 || what < 0 || what > 2 || Math.abs((long) day) > 200000) return BAD;
        GregorianCalendar c = calendar(calendar);
        c.setTimeInMillis(millis(calendar, 1, 3, 200) + day * 86400000L);
        int year = c.get(GregorianCalendar.YEAR);
        if (c.get(GregorianCalendar.ERA) != GregorianCalendar.AD || year > 600) return BAD;
        return what == 0 ? c.get(GregorianCalendar.DAY_OF_MONTH) : what == 1 ? c.get(GregorianCalendar.MONTH) + 1 : year;
    }

    int type(int b) {
        if (b < 0 || b > 255) return BAD;
        if (text.length() == 40) return FULL;
        text.append((char) b);
        return text.length();
    }

    int wipe() {
        int had = text.length();
        text.setLength(0);
        return had;
    }

    /** Byte by byte: parts 0 .. 2 are numbers, and what ends them is looked at with the next byte. */
    int fault() {
        int date = 0;
        int part = 0;
        String figures = "";
        int start = 0;
        int[] values = new int[3];
        int firstFigure = 0;
        boolean isBehindLetter = false;
        for (int i = 0; i <= text.length(); i++) {
            char c = i < text.length() ? text.charAt(i) : 0;
            boolean isEnd = i == text.length();
            if (isBehindLetter) {
                if (isEnd) return NONE;
                if (c != '-' || date == 1) return i;
                date = 1;
                part = 0;
                figures = "";
                isBehindLetter = false;
                continue;
            }
            boolean isFigure = !isEnd && c >= '0' && c <= '9';
            if (isFigure && figures.length() < (part == 2 ? 3 : 2)) {
                if (figures.isEmpty()) {
                    start = i;
                    if (part == 0) firstFigure = i;
                }
                figures += c;
                continue;
            }
            if (figures.isEmpty()) return i;
            values[part] = Integer.parseInt(figures);
            if (values[part] == 0 || values[part] > new int[] {31, 12, 600}[part]) return start;
            if (isEnd) return i;
            if (part < 2) {
                if (c != '.') return i;
                part++;
                figures = "";
                continue;
            }
            if (c != 'a' && c != 'b') return i;
            int day = dayOf(c - 'a', values[0], values[1], values[2]);
            if (day == -300000) return firstFigure;
            if (date == 0) {
                saidFrom = day;
            } else if (day < saidFrom) {
                return firstFigure;
            }
            saidTo = day;
            isBehindLetter = true;
        }
        return text.length();
    }

    int said(int book, int thing) {
        if (noBook(book) || noThing(thing)) return BAD;
        if (fault() != NONE) return NOT;
        return tell(book, thing, NONE, saidFrom, saidTo);
    }

    // ---- sheets: true arrays, as the findings' names have it

    int sheet(int s, int type, int n) {
        if (noSheet(s) || type < 0 || type > 2 || n > 40) return BAD;
        if (n < 0) return find(5);
        sheets[s] = type == 0 ? new byte[n] : type == 1 ? (Object) new short[n] : new int[n];
        return n;
    }

    int lose(int s) {
        if (noSheet(s)) return BAD;
        if (sheets[s] == null) return find(1);
        int had = sizeOf(s);
        sheets[s] = null;
        return had;
    }

    int put(int s, int type, int i, int v) {
        if (noSheet(s) || type < 0 || type > 2) return BAD;
        if (sheets[s] == null) return find(1);
        if (typeOf(s) != type) return find(3);
        if (i < 0 || i >= sizeOf(s)) return find(2);
        setItem(s, i, v);
        return 1;
    }

    int get(int s, int type, int i) {
        if (noSheet(s) || type < 0 || type > 2) return Integer.MIN_VALUE;
        int number = sheets[s] == null ? 1 : typeOf(s) != type ? 3 : i < 0 || i >= sizeOf(s) ? 2 : 0;
        if (number != 0) {
            find(number);
            return Integer.MIN_VALUE;
        }
        return item(s, i);
    }

    int copy(int s, int i, int t, int j, int n) {
        if (noSheet(s) || noSheet(t)) return BAD;
        if (sheets[s] == null || sheets[t] == null) return find(1);
        if (typeOf(s) != typeOf(t)) return find(4);
        if (i < 0 || j < 0 || n < 0 || (long) i + n > sizeOf(s) || (long) j + n > sizeOf(t)) return find(2);
        int[] held = new int[n];
        for (int k = 0; k < n; k++) held[k] = item(s, i + k);
        for (int k = 0; k < n; k++) setItem(t, j + k, held[k]);
        return 1;
    }

    int write(int s) {
        if (noSheet(s)) return BAD;
        if (sheets[s] == null) return find(1);
        if (all() == 0) return NOT;
        int written = 0;
        for (int t = 0; t < things; t++) {
            for (int end = 0; end < 2; end++) {
                if (written < sizeOf(s)) {
                    setItem(s, written, span(t, end));
                    written++;
                }
            }
        }
        return written;
    }

    int count(int what) {
        int trust = 0;
        for (Book b : books) trust += b.trust[0];
        int on = 0;
        for (Row r : known(viewDay())) on += r.other == NONE ? 1 : 0;
        int[] answers = {today, things, books.size(), rows.size(), known(viewDay()).size(), on, trust, text.length(), finding};
        return what < 0 || what > 8 ? BAD : answers[what];
    }

    long digest() {
        List<Long> parts = new ArrayList<>();
        for (int what = 0; what < 8; what++) parts.add((long) count(what));
        for (int row = 0; row < rows.size(); row++) {
            for (int what = 0; what < 8; what++) parts.add((long) about(row, what));
        }
        parts.add((long) all());
        for (int t = 0; t < things; t++) {
            parts.add((long) span(t, 0));
            parts.add((long) span(t, 1));
        }
        for (int b = 0; b < books.size(); b++) {
            parts.add((long) clock(b, 0));
            parts.add((long) clock(b, 1));
        }
        parts.add(orders());
        parts.add((long) fault());
        long h = 17;
        for (long part : parts) h = h * 31 + part;
        return h;
    }

    // ---- what these share

    private boolean noThing(int t) {
        return t < 0 || t >= things;
    }

    private boolean noBook(int b) {
        return b < 0 || b >= books.size();
    }

    private boolean noRow(int r) {
        return r < 0 || r >= rows.size();
    }

    private static boolean noSheet(int s) {
        return s < 0 || s > 3;
    }

    private int find(int number) {
        finding = number;
        return -10 - number;
    }

    private int typeOf(int s) {
        return sheets[s] instanceof byte[] ? 0 : sheets[s] instanceof short[] ? 1 : 2;
    }

    private int sizeOf(int s) {
        return java.lang.reflect.Array.getLength(sheets[s]);
    }

    private int item(int s, int i) {
        return java.lang.reflect.Array.getInt(sheets[s], i);
    }

    private void setItem(int s, int i, int v) {
        if (sheets[s] instanceof byte[] b) {
            b[i] = (byte) v;
        } else if (sheets[s] instanceof short[] h) {
            h[i] = (short) v;
        } else if (sheets[s] instanceof int[] n) {
            n[i] = v;
        }
    }

    private int viewDay() {
        return view == NONE ? today : view;
    }

    private static boolean isKnown(Row r, int day) {
        return r.told <= day && !(r.taken[0] != NONE && r.taken[0] <= day);
    }

    private List<Row> known(int day) {
        List<Row> known = new ArrayList<>();
        for (Row r : rows) {
            if (isKnown(r, day)) known.add(r);
        }
        return known;
    }

    private int indexOf(Row row) {
        for (int i = 0; i < rows.size(); i++) {
            if (rows.get(i) == row) return i;
        }
        return NONE;
    }

    private String spanText(int thing, List<Row> set) {
        long[][] d = close(set);
        return d == null ? "none" : -d[1 + thing][0] + ".." + d[0][1 + thing];
    }

    /** Of all pairs the most by which the second can be behind the first; null: it cannot be. */
    private long[][] close(List<Row> set) {
        long[][] d = weigh(set, 1, 0);
        for (int i = 0; i < d.length; i++) {
            if (d[i][i] < 0) return null;
        }
        return d;
    }

    private long[][] weigh(List<Row> set, long scale, long step) {
        int n = 1 + things + books.size();
        long[][] d = new long[n][n];
        for (int i = 0; i < n; i++) {
            Arrays.fill(d[i], FAR);
            d[i][i] = 0;
        }
        for (int t = 0; t < things; t++) {
            d[0][1 + t] = 200000 * scale;
            d[1 + t][0] = 200000 * scale;
        }
        for (int b = 0; b < books.size(); b++) {
            d[0][1 + things + b] = -books.get(b).least * scale;
            d[1 + things + b][0] = books.get(b).greatest * scale;
        }
        for (Row r : set) {
            int a = r.other == NONE ? 1 + things + r.book : 1 + r.other;
            int b = 1 + r.thing;
            d[a][b] = Math.min(d[a][b], r.y * scale + step);
            d[b][a] = Math.min(d[b][a], -r.x * scale + step);
        }
        for (int k = 0; k < n; k++) {
            for (int i = 0; i < n; i++) {
                for (int j = 0; j < n; j++) {
                    // Held above a bound: circles below 0 would run over.
                    d[i][j] = Math.max(-FAR, Math.min(d[i][j], d[i][k] + d[k][j]));
                }
            }
        }
        return d;
    }
}
