import java.util.ArrayList;
import java.util.List;
import java.util.Random;
import java.util.TreeMap;
import java.util.TreeSet;

/**
 * Parts 2 to 4 of the document word by word, in worlds so small that all days of all things and all that clocks
 * may be off by can be tried one after another: no bounds on differences, no shortest ways, as the class and
 * Oracle have them. Days from -15 to 15 are enough: with three things, two clocks off by 2 at most and rows
 * of 3 days at most, rows that can be at all can be so, and a thing that rows tie to a clock is always there.
 */
public final class DefinitionsTest {
    private static final int WORLDS = 600, THINGS = 3, BOOKS = 2, EDGE = 15, MOST_OFF = 2, FARTHEST = 3;
    private static final Check CHECK = new Check("DefinitionsTest");
    private static final int[][] LINES = {{0, 1, 2}, {0, 2, 1}, {1, 0, 2}, {1, 2, 0}, {2, 0, 1}, {2, 1, 0}};

    /** How often each of the ways that an answer can come about was met: a test of nothing would pass too. */
    private static final TreeMap<String, Integer> MET = new TreeMap<>();

    private record Row(int book, int thing, int other, int x, int y) {
        boolean isSo(int[] days, int[] offs) {
            int number = other < 0 ? days[thing] + offs[book] : days[thing] - days[other];
            return x <= number && number <= y;
        }
    }

    /** One way in which all can have been, and the rows that are so by it. */
    private record Way(int[] days, int[] offs, int rows) {
    }

    private final Random chance;
    private final int world;
    private final WhenItWas x = new WhenItWas();
    private final int[] least = new int[BOOKS];
    private final int[] greatest = new int[BOOKS];
    private final int[] trust = new int[BOOKS];
    private final List<Row> rows = new ArrayList<>();
    private final List<Way> ways = new ArrayList<>();
    private final TreeSet<Integer> rowsThatAreSo = new TreeSet<>();
    private int all = 0;

    private DefinitionsTest(int world) {
        this.world = world;
        chance = new Random(104729L * world + 3);
        for (int t = 0; t < THINGS; t++) x.thing();
        for (int b = 0; b < BOOKS; b++) {
            least[b] = chance.nextInt(2 * MOST_OFF + 1) - MOST_OFF;
            greatest[b] = least[b] + chance.nextInt(MOST_OFF - least[b] + 1);
            trust[b] = 1 + chance.nextInt(9);
            x.book(least[b], greatest[b]);
            x.trust(b, trust[b]);
        }
        int howMany = 2 + chance.nextInt(6);
        for (int r = 0; r < howMany; r++) tellRow();
        all = (1 << rows.size()) - 1;
        tryAllDays(new int[THINGS], 0);
    }

    public static void main(String[] args) {
        for (int world = 0; world < WORLDS && CHECK.isClean(); world++) {
            DefinitionsTest w = new DefinitionsTest(world);
            w.canBe();
            w.doubts();
            if (w.can(w.all)) {
                w.spans();
                w.led();
                w.orders();
            }
            w.fits();
        }
        String[] ways = {"can be", "cannot be", "one doubted", "two doubted", "led 0", "led 1", "led 2", "led 3",
            "fits", "does not fit", "sure", "not sure", "a question", "no question", "hangs", "does not hang"};
        for (String way : ways) CHECK.due("met: " + way, MET.containsKey(way) ? 1 : 0, 1);
        CHECK.end();
    }

    private void due(String call, long got, long want) {
        CHECK.due("world " + world + " " + rows + ": " + call, got, want);
    }

    private static void met(String way) {
        MET.merge(way, 1, Integer::sum);
    }

    private void tellRow() {
        int a = chance.nextInt(2 * FARTHEST + 1) - FARTHEST;
        int b = chance.nextInt(2 * FARTHEST + 1) - FARTHEST;
        int book = chance.nextInt(BOOKS);
        int thing = chance.nextInt(THINGS);
        int other = chance.nextBoolean() ? -1 : (thing + 1 + chance.nextInt(THINGS - 1)) % THINGS;
        Row row = new Row(book, thing, other, Math.min(a, b), Math.max(a, b));
        rows.add(row);
        if (other < 0) x.on(book, thing, row.x, row.y);
        else x.apart(book, thing, other, row.x, row.y);
    }

    private void tryAllDays(int[] days, int thing) {
        if (thing == THINGS) {
            tryAllOffs(days, new int[BOOKS], 0);
            return;
        }
        for (days[thing] = -EDGE; days[thing] <= EDGE; days[thing]++) tryAllDays(days, thing + 1);
    }

    private void tryAllOffs(int[] days, int[] offs, int book) {
        if (book < BOOKS) {
            for (offs[book] = least[book]; offs[book] <= greatest[book]; offs[book]++) tryAllOffs(days, offs, book + 1);
            return;
        }
        int so = 0;
        for (int r = 0; r < rows.size(); r++) {
            if (rows.get(r).isSo(days, offs)) so |= 1 << r;
        }
        rowsThatAreSo.add(so);
        // With two rows that are not so it is of no use for spans by all rows, or by all but one.
        if (Integer.bitCount(all & ~so) < 2) ways.add(new Way(days.clone(), offs.clone(), so));
    }

    private boolean can(int set) {
        for (int so : rowsThatAreSo) {
            if ((set & ~so) == 0) return true;
        }
        return false;
    }

    private void canBe() {
        for (int set = 0; set <= all; set++) {
            met(can(set) ? "can be" : "cannot be");
            due("can(" + set + ")", x.can(set), can(set) ? 1 : 0);
        }
        due("all()", x.all(), can(all) ? 1 : 0);
    }

    private void doubts() {
        int fewest = 0;
        int best = 0;
        int[] blame = new int[rows.size()];
        for (int size = 1; size <= rows.size() && fewest == 0 && !can(all); size++) {
            for (int set = 1; set <= all; set++) {
                if (Integer.bitCount(set) != size || !can(all & ~set)) continue;
                fewest = size;
                if (best == 0 || trustOf(set) < trustOf(best)) best = set;
                for (int r = 0; r < rows.size(); r++) blame[r] += set >>> r & 1;
            }
        }
        if (fewest == 1) met("one doubted");
        if (fewest == 2) met("two doubted");
        due("doubts()", x.doubts(), best);
        for (int r = 0; r < rows.size(); r++) due("blamed(" + r + ")", x.blamed(r), blame[r]);
    }

    private int trustOf(int set) {
        int sum = 0;
        for (int r = 0; r < rows.size(); r++) {
            if ((set >>> r & 1) == 1) sum += trust[rows.get(r).book];
        }
        return sum;
    }

    /** Whether rows of the set tie a thing to a clock; else its days go on beyond those that are tried here. */
    private boolean isTied(int thing, int set) {
        boolean[] tied = new boolean[THINGS];
        for (int round = 0; round < THINGS; round++) {
            for (int r = 0; r < rows.size(); r++) {
                Row row = rows.get(r);
                if ((set >>> r & 1) == 0) continue;
                if (row.other < 0) tied[row.thing] = true;
                else if (tied[row.thing] || tied[row.other]) tied[row.thing] = tied[row.other] = true;
            }
        }
        return tied[thing];
    }

    private interface Number {
        int of(Way way);
    }

    /** The least and the greatest of a number by all ways in which the rows of a set are so. */
    private int[] ends(int set, Number number) {
        int[] ends = {Integer.MAX_VALUE, Integer.MIN_VALUE};
        for (Way way : ways) {
            if ((set & ~way.rows) == 0) {
                ends[0] = Math.min(ends[0], number.of(way));
                ends[1] = Math.max(ends[1], number.of(way));
            }
        }
        return ends;
    }

    private void spans() {
        for (int b = 0; b < BOOKS; b++) {
            int book = b;
            int[] ends = ends(all, way -> way.offs[book]);
            for (int end = 0; end < 2; end++) due("clock(" + b + ", " + end + ")", x.clock(b, end), ends[end]);
        }
        for (int t = 0; t < THINGS; t++) {
            if (!isTied(t, all)) continue;
            int thing = t;
            int[] ends = ends(all, way -> way.days[thing]);
            for (int end = 0; end < 2; end++) due("span(" + t + ", " + end + ")", x.span(t, end), ends[end]);
            due("hangs(" + t + ")", x.hangs(t), hangs(t, ends));
            for (int o = 0; o < THINGS; o++) {
                int other = o;
                if (o == t || !isTied(o, all)) continue;
                int[] apart = ends(all, way -> way.days[thing] - way.days[other]);
                for (int end = 0; end < 2; end++) {
                    due("between(" + t + ", " + o + ", " + end + ")", x.between(t, o, end), apart[end]);
                }
            }
        }
    }

    private long hangs(int thing, int[] ends) {
        long bits = 0;
        for (int r = 0; r < rows.size(); r++) {
            int rest = all & ~(1 << r);
            int[] without = ends(rest, way -> way.days[thing]);
            boolean isAnother = !isTied(thing, rest) || without[0] != ends[0] || without[1] != ends[1];
            met(isAnother ? "hangs" : "does not hang");
            if (isAnother) bits |= 1L << r;
        }
        return bits;
    }

    /** Tries all walks of 0, 1, .. steps that come to the thing. */
    private void led() {
        for (int t = 0; t < THINGS; t++) {
            for (int end = 0; end < 2; end++) {
                int wanted = x.span(t, end);
                int steps = 0;
                while (steps < THINGS + BOOKS && bestWalk(t, steps, end) != wanted) steps++;
                met("led " + steps);
                due("led(" + t + ", " + end + ")", x.led(t, end), steps);
            }
        }
    }

    /** The nearest bound of a thing's day (node up to 2) or of what a clock is off by (from 3 on) by so many steps. */
    private int bestWalk(int node, int steps, int end) {
        if (steps == 0) {
            if (node < THINGS) return end == 1 ? 200000 : -200000;
            return end == 1 ? greatest[node - THINGS] : least[node - THINGS];
        }
        int best = bestWalk(node, 0, end);
        for (Row row : rows) {
            int bound = best;
            if (row.other < 0 && (node == row.thing || node == THINGS + row.book)) {
                // day + off is x to y: the most of one comes with the least of the other
                int from = node == row.thing ? THINGS + row.book : row.thing;
                bound = (end == 1 ? row.y : row.x) - bestWalk(from, steps - 1, 1 - end);
            } else if (row.other >= 0 && node == row.thing) {
                bound = bestWalk(row.other, steps - 1, end) + (end == 1 ? row.y : row.x);
            } else if (node == row.other) {
                bound = bestWalk(row.thing, steps - 1, end) - (end == 1 ? row.x : row.y);
            }
            best = end == 1 ? Math.min(best, bound) : Math.max(best, bound);
        }
        return best;
    }

    private void orders() {
        boolean[][] sure = new boolean[THINGS][THINGS];
        for (int t = 0; t < THINGS; t++) {
            if (!isTied(t, all)) return;
            for (int o = 0; o < THINGS; o++) {
                int thing = t;
                int other = o;
                if (t == o) continue;
                sure[t][o] = ends(all, way -> way.days[other] - way.days[thing])[0] >= 1;
                met(sure[t][o] ? "sure" : "not sure");
                due("ahead(" + t + ", " + o + ")", x.ahead(t, o), sure[t][o] ? 1 : 0);
            }
        }
        List<int[]> orders = new ArrayList<>();
        for (int[] line : LINES) {
            if (!sure[line[1]][line[0]] && !sure[line[2]][line[0]] && !sure[line[2]][line[1]]) orders.add(line);
        }
        due("orders()", x.orders(), orders.size());
        int question = -1;
        int fewest = Integer.MAX_VALUE;
        for (int t = 0; t < THINGS; t++) {
            int thing = t;
            due("first(" + t + ")", x.first(t), orders.stream().filter(line -> line[0] == thing).count());
            for (int o = 0; o < THINGS; o++) {
                if (t == o) continue;
                int ahead = howManyAhead(orders, t, o);
                share(t, o, ahead, orders.size());
                int worst = Math.max(ahead, orders.size() - ahead);
                if (t < o && !sure[t][o] && !sure[o][t] && worst < fewest) {
                    fewest = worst;
                    question = 100 * t + o;
                }
            }
        }
        met(question < 0 ? "no question" : "a question");
        due("question()", x.question(), question);
    }

    private static int howManyAhead(List<int[]> orders, int thing, int other) {
        int ahead = 0;
        for (int[] line : orders) {
            for (int t : line) {
                if (t == thing) ahead++;
                if (t == thing || t == other) break;
            }
        }
        return ahead;
    }

    private void share(int thing, int other, int ahead, int whole) {
        int above = ahead;
        int below = whole;
        for (int d = whole; d > 1; d--) {
            if (above % d == 0 && below % d == 0) {
                above /= d;
                below /= d;
            }
        }
        due("share(" + thing + ", " + other + ", 0)", x.share(thing, other, 0), above);
        due("share(" + thing + ", " + other + ", 1)", x.share(thing, other, 1), below);
    }

    private void fits() {
        int[] days = new int[THINGS];
        boolean fromAWay = can(all) && chance.nextInt(3) > 0;
        List<Way> right = ways.stream().filter(way -> way.rows == all).toList();
        for (int t = 0; t < THINGS; t++) days[t] = chance.nextInt(9) - 4;
        if (fromAWay) days = right.get(chance.nextInt(right.size())).days;
        Check.fill(x, 0, chance.nextInt(3), days);
        TreeSet<Integer> first = new TreeSet<>();
        TreeSet<Integer> second = new TreeSet<>();
        for (Way way : right) {
            if (way.days[0] == days[0] && way.days[1] == days[1] && way.days[2] == days[2]) {
                first.add(way.offs[0]);
                second.add(way.offs[1]);
            }
        }
        met(first.isEmpty() ? "does not fit" : "fits");
        due("fits(0)", x.fits(0), first.isEmpty() ? 0 : 1);
        due("room(0, 0)", x.room(0, 0), first.isEmpty() ? WhenItWas.NOT : first.size());
        due("room(0, 1)", x.room(0, 1), second.isEmpty() ? WhenItWas.NOT : second.size());
    }
}
