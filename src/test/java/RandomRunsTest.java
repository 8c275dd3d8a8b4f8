import java.util.Random;

/** Long runs of chosen-by-chance calls (the same ones each time), each answer held against Oracle's. */
public final class RandomRunsTest {
    private static final int RUNS = 260, CALLS = 512;
    private static final String[] SIGNS = {
        "1.3.200a", "29.2.100a", "29.2.100b", "3.11.204a-1.2.205b", "31.12.600b", "0.1.1a", "1.0.1b", "1.1.0a",
        "30.2.4a", "1.1.601a", "5.5.5a-4.5.5a", "5.5.5a-5.5.5a", "28.2.300b-29.2.300a", "01.01.001a", "1.1.1a-1.1.1b-1.1.1a",
        "99.1.1a", "1.1.1A", "1,1.1a", "12.12.123a-", "7.7.7", "7.7.", "7.7", "7.", "7", "", "a", "-", ".", "1.13.3a", "111.1.1a"};

    private final Check check;
    private final Random chance;
    private final WhenItWas x = new WhenItWas();
    private final Oracle y = new Oracle();
    private final int[] trueDays = new int[12];
    private final int[] trueOffs = new int[6];
    private final int scatter;
    private final int lies;
    private final int mostRows;
    private final int run;

    private RandomRunsTest(Check check, int run) {
        this.check = check;
        this.run = run;
        chance = new Random(7919L * run + 1);
        scatter = new int[] {3, 12, 400, 60000, 199000}[run % 5];
        lies = new int[] {0, 2, 10, 40}[run / 5 % 4];
        // Doubts are looked for among twelve rows at most: runs with few rows are needed too.
        mostRows = new int[] {9, 12, 14, 20, 40, 40, 12}[run % 7];
        for (int t = 0; t < 12; t++) trueDays[t] = chance.nextInt(2 * scatter + 1) - scatter;
        for (int b = 0; b < 6; b++) trueOffs[b] = chance.nextInt(2 * Math.min(scatter, 900) + 1) - Math.min(scatter, 900);
    }

    public static void main(String[] args) {
        Check check = new Check("RandomRunsTest");
        for (int run = 0; run < RUNS && check.isClean(); run++) {
            new RandomRunsTest(check, run).play();
        }
        check.end();
    }

    private void play() {
        int mostThings = 2 + run % 11;
        int mostBooks = 1 + run % 6;
        for (int n = 0; n < CALLS && check.isClean(); n++) {
            if (n < 20 && y.count(1) < mostThings && chance.nextInt(3) > 0) {
                due("thing()", x.thing(), y.thing());
            } else if (n < 20 && y.count(2) < mostBooks) {
                tellBook();
            } else {
                step();
            }
        }
    }

    private void due(String name, long got, long want) {
        check.due("run " + run + ": " + name, got, want);
    }

    private void step() {
        int kind = chance.nextInt(100);
        if (kind < 22 && (y.count(3) < mostRows || chance.nextInt(30) == 0)) {
            tellRow();
        } else if (kind < 27) {
            change();
        } else if (kind < 60) {
            askSpans();
        } else if (kind < 75) {
            askOrders();
        } else if (kind < 85) {
            useDates();
        } else {
            useSheets();
        }
    }

    private int pick(int below) {
        // Now and then one that there is not.
        int wild = chance.nextInt(40);
        if (wild == 0) return -1 - chance.nextInt(3);
        if (wild == 1) return below + chance.nextInt(3);
        if (wild == 2) return chance.nextBoolean() ? Integer.MIN_VALUE : Integer.MAX_VALUE;
        return below <= 0 ? 0 : chance.nextInt(below);
    }

    private void tellBook() {
        int b = Math.min(y.count(2), 5);
        int slack = chance.nextInt(4) == 0 ? 0 : chance.nextInt(100);
        int least = trueOffs[b] - slack;
        int greatest = trueOffs[b] + chance.nextInt(slack + 1);
        due("book(" + least + ", " + greatest + ")", x.book(least, greatest), y.book(least, greatest));
    }

    private int noise() {
        return chance.nextInt(100) < lies ? chance.nextInt(2 * scatter + 1) - scatter : 0;
    }

    private void tellRow() {
        int book = pick(y.count(2));
        int thing = pick(y.count(1));
        int other = pick(y.count(1));
        int wide = new int[] {0, 0, 1, 5, scatter}[chance.nextInt(5)];
        int below = chance.nextInt(wide + 1);
        int above = chance.nextInt(wide + 1);
        if (chance.nextInt(60) == 0) below = -above - 1;
        int t = trueDays[Math.floorMod(thing, 12)];
        int o = trueDays[Math.floorMod(other, 12)];
        if (chance.nextBoolean()) {
            int day = t + trueOffs[Math.floorMod(book, 6)] + noise();
            due("on(" + book + ", " + thing + ", " + (day - below) + ", " + (day + above) + ")",
                    x.on(book, thing, day - below, day + above), y.on(book, thing, day - below, day + above));
        } else {
            int apart = t - o + noise();
            due("apart(" + book + ", " + thing + ", " + other + ", " + (apart - below) + ", " + (apart + above) + ")",
                    x.apart(book, thing, other, apart - below, apart + above),
                    y.apart(book, thing, other, apart - below, apart + above));
        }
    }

    private void change() {
        int a = chance.nextInt(9);
        int v = chance.nextInt(13) - 1;
        int book = pick(y.count(2));
        int row = pick(y.count(3));
        int day = chance.nextInt(3) == 0 ? -1 : pick(y.count(0) + 1);
        int n = chance.nextInt(9) == 0 ? pick(101) : chance.nextInt(6);
        switch (a) {
            case 0 -> due("thing()", x.thing(), y.thing());
            case 1 -> tellBook();
            case 2 -> due("trust(" + book + ", " + v + ")", x.trust(book, v), y.trust(book, v));
            case 3, 4, 5 -> due("pass(" + n + ")", x.pass(n), y.pass(n));
            case 6, 7 -> due("takeBack(" + row + ")", x.takeBack(row), y.takeBack(row));
            default -> due("asOf(" + day + ")", x.asOf(day), y.asOf(day));
        }
    }

    private void askSpans() {
        int t = pick(y.count(1));
        int o = pick(y.count(1));
        int b = pick(y.count(2));
        int c = pick(y.count(2));
        int row = pick(y.count(3));
        int end = pick(2);
        int three = pick(3);
        int s = pick(4);
        int i = pick(6);
        int eight = pick(8);
        long set = chance.nextLong() & chance.nextLong() & (1L << Math.min(y.count(3), 40)) - 1;
        for (int r = 0; r < y.count(3); r++) {
            if (y.about(r, 7) == 0 && chance.nextInt(30) > 0) set &= ~(1L << r);
        }
        if (chance.nextInt(20) == 0) set |= 1L << chance.nextInt(64);
        long rows = set;
        switch (chance.nextInt(14)) {
            case 0 -> due("can(" + rows + ")", x.can(rows), y.can(rows));
            case 1 -> due("all()", x.all(), y.all());
            case 2 -> due("span(" + t + ", " + end + ")", x.span(t, end), y.span(t, end));
            case 3 -> due("clock(" + b + ", " + end + ")", x.clock(b, end), y.clock(b, end));
            case 4 -> due("between(" + t + ", " + o + ", " + end + ")", x.between(t, o, end), y.between(t, o, end));
            case 5 -> due("led(" + t + ", " + end + ")", x.led(t, end), y.led(t, end));
            case 6 -> due("changed(" + t + ", " + i + ")", x.changed(t, i), y.changed(t, i));
            case 7 -> due("fits(" + s + ")", x.fits(s), y.fits(s));
            case 8, 9 -> due("kin(" + b + ", " + c + ", " + three + ")", x.kin(b, c, three), y.kin(b, c, three));
            case 10 -> due("hangs(" + t + ")", x.hangs(t), y.hangs(t));
            case 11 -> due("doubts()", x.doubts(), y.doubts());
            case 12 -> due("blamed(" + row + ")", x.blamed(row), y.blamed(row));
            default -> due("about(" + row + ", " + eight + ")", x.about(row, eight), y.about(row, eight));
        }
    }

    private void askOrders() {
        int t = pick(y.count(1));
        int o = pick(y.count(1));
        int end = pick(2);
        switch (chance.nextInt(6)) {
            case 0 -> due("ahead(" + t + ", " + o + ")", x.ahead(t, o), y.ahead(t, o));
            case 1 -> due("orders()", x.orders(), y.orders());
            case 2, 3 -> due("share(" + t + ", " + o + ", " + end + ")", x.share(t, o, end), y.share(t, o, end));
            case 4 -> due("first(" + t + ")", x.first(t), y.first(t));
            default -> {
                if (chance.nextInt(4) == 0) due("question()", x.question(), y.question());
            }
        }
    }

    private void useDates() {
        int calendar = pick(2);
        int what = pick(3);
        int b = pick(y.count(2));
        int t = pick(y.count(1));
        switch (chance.nextInt(6)) {
            case 0 -> {
                int day = chance.nextInt(33);
                int month = chance.nextInt(14);
                int year = chance.nextInt(4) == 0 ? 100 * chance.nextInt(7) : chance.nextInt(602);
                due("dayOf(" + calendar + ", " + day + ", " + month + ", " + year + ")",
                        x.dayOf(calendar, day, month, year), y.dayOf(calendar, day, month, year));
            }
            case 1 -> {
                int day = chance.nextInt(230000) - 76000;
                due("dateOf(" + calendar + ", " + day + ", " + what + ")",
                        x.dateOf(calendar, day, what), y.dateOf(calendar, day, what));
            }
            case 2 -> typeText();
            case 3 -> due("wipe()", x.wipe(), y.wipe());
            case 4 -> due("fault()", x.fault(), y.fault());
            default -> due("said(" + b + ", " + t + ")", x.said(b, t), y.said(b, t));
        }
    }

    private void typeText() {
        if (chance.nextBoolean()) due("wipe()", x.wipe(), y.wipe());
        String text = SIGNS[chance.nextInt(SIGNS.length)];
        if (chance.nextInt(3) > 0) text = anyDate(150 + chance.nextInt(100));
        if (chance.nextInt(3) == 0) text += "-" + anyDate(200 + chance.nextInt(100));
        if (chance.nextInt(4) == 0) text = "-" + text;
        if (chance.nextInt(5) == 0) text += (char) chance.nextInt(256);
        for (int i = 0; i < text.length(); i++) {
            int b = text.charAt(i);
            due("type(" + b + ")", x.type(b), y.type(b));
        }
        due("fault()", x.fault(), y.fault());
        if (chance.nextInt(4) == 0) due("said(0, 0)", x.said(0, 0), y.said(0, 0));
    }

    private String anyDate(int year) {
        return chance.nextInt(32) + "." + chance.nextInt(13) + "." + year + (chance.nextBoolean() ? "a" : "b");
    }

    private void useSheets() {
        int s = pick(4);
        int t = pick(4);
        int type = pick(3);
        int i = pick(12);
        int j = pick(12);
        int n = pick(chance.nextInt(3) == 0 ? 41 : 14);
        int v = chance.nextInt(4) == 0 ? chance.nextInt() : chance.nextInt(12) - 1;
        switch (chance.nextInt(11)) {
            case 0 -> due("sheet(" + s + ", " + type + ", " + n + ")", x.sheet(s, type, n), y.sheet(s, type, n));
            case 1 -> {
                if (chance.nextInt(4) == 0) due("lose(" + s + ")", x.lose(s), y.lose(s));
            }
            case 2 -> due("put(" + s + ", " + type + ", " + i + ", " + v + ")", x.put(s, type, i, v), y.put(s, type, i, v));
            case 3 -> due("get(" + s + ", " + type + ", " + i + ")", x.get(s, type, i), y.get(s, type, i));
            case 4 -> due("copy(" + s + ", " + i + ", " + t + ", " + j + ", " + n + ")", x.copy(s, i, t, j, n), y.copy(s, i, t, j, n));
            case 5 -> due("write(" + s + ")", x.write(s), y.write(s));
            case 6 -> due("count(" + i + ")", x.count(i), y.count(i));
            case 7 -> due("digest()", x.digest(), y.digest());
            case 8 -> due("read(" + s + ")", x.read(s), y.read(s));
            case 9 -> fillWithTrueDays(s);
            default -> fillWithARow(s);
        }
        due("count(8)", x.count(8), y.count(8));
    }

    private void fillWithTrueDays(int s) {
        due("sheet(" + s + ", 2, 12)", x.sheet(s, 2, 12), y.sheet(s, 2, 12));
        for (int t = 0; t < 12; t++) {
            int day = trueDays[t] + (chance.nextInt(30) == 0 ? 1 : 0);
            due("put(" + s + ", 2, " + t + ", " + day + ")", x.put(s, 2, t, day), y.put(s, 2, t, day));
        }
        due("fits(" + s + ")", x.fits(s), y.fits(s));
        int b = pick(y.count(2));
        due("room(" + s + ", " + b + ")", x.room(s, b), y.room(s, b));
    }

    private void fillWithARow(int s) {
        int other = chance.nextBoolean() ? -1 : pick(y.count(1));
        int[] row = {pick(y.count(2)), pick(y.count(1)), other, -scatter, scatter};
        int type = pick(3);
        due("sheet(" + s + ", " + type + ", 7)", x.sheet(s, type, 7), y.sheet(s, type, 7));
        for (int k = 0; k < 5; k++) {
            due("put(" + s + ", " + type + ", " + k + ", " + row[k] + ")", x.put(s, type, k, row[k]), y.put(s, type, k, row[k]));
        }
        due("read(" + s + ")", x.read(s), y.read(s));
    }
}
