/** Promises 1 to 11: a new object, days of knowing, things, books, rows. */
public final class RowsTest {
    private static final Check CHECK = new Check("RowsTest");

    public static void main(String[] args) {
        newObject();
        passing();
        thingsAndBooks();
        trusting();
        tellingOn();
        tellingApart();
        fullOfRows();
        reading();
        readingStops();
        takingBack();
        asOfDays();
        CHECK.end();
    }

    private static void due(String call, long got, long want) {
        CHECK.due(call, got, want);
    }

    private static void newObject() {
        WhenItWas x = new WhenItWas();
        for (int what = 0; what <= 8; what++) due("1: count(" + what + ") of a new object", x.count(what), 0);
        due("1: asOf(NONE) of a new object", x.asOf(WhenItWas.NONE), WhenItWas.NONE);
        for (int s = 0; s < 4; s++) due("1: lose(" + s + ") of a new object", x.lose(s), -11);
        due("1: all() of a new object", x.all(), 1);
        due("1: orders() of a new object", x.orders(), 1);
        due("1: doubts() of a new object", x.doubts(), 0);
        due("1: question() of a new object", x.question(), WhenItWas.NONE);
    }

    private static void passing() {
        WhenItWas x = new WhenItWas();
        due("2: pass(0)", x.pass(0), WhenItWas.BAD);
        due("2: pass(-1)", x.pass(-1), WhenItWas.BAD);
        due("2: pass(101)", x.pass(101), WhenItWas.BAD);
        due("2: pass(max)", x.pass(Integer.MAX_VALUE), WhenItWas.BAD);
        due("2: pass(min)", x.pass(Integer.MIN_VALUE), WhenItWas.BAD);
        due("2: pass(1)", x.pass(1), 1);
        due("2: pass(100)", x.pass(100), 101);
        x.pass(100);
        x.pass(100);
        due("2: pass(99) above 399", x.pass(99), WhenItWas.BAD);
        due("2: pass(98) to 399", x.pass(98), 399);
        due("2: pass(1) at the end", x.pass(1), WhenItWas.BAD);
        due("2: the day stays", x.count(0), 399);
    }

    private static void thingsAndBooks() {
        WhenItWas x = new WhenItWas();
        for (int t = 0; t < 12; t++) due("3: thing()", x.thing(), t);
        due("3: a 13th thing()", x.thing(), WhenItWas.FULL);
        due("3: things", x.count(1), 12);
        due("4: book(-1001, 0)", x.book(-1001, 0), WhenItWas.BAD);
        due("4: book(0, 1001)", x.book(0, 1001), WhenItWas.BAD);
        due("4: book(1001, 1001)", x.book(1001, 1001), WhenItWas.BAD);
        due("4: book(-1001, -1001)", x.book(-1001, -1001), WhenItWas.BAD);
        due("4: book(1, 0)", x.book(1, 0), WhenItWas.BAD);
        due("4: book(-1000, 1000)", x.book(-1000, 1000), 0);
        due("4: book(1000, 1000)", x.book(1000, 1000), 1);
        due("4: book(-1000, -1000)", x.book(-1000, -1000), 2);
        for (int b = 3; b < 6; b++) due("4: book(0, 0)", x.book(0, 0), b);
        due("4: a 7th book", x.book(0, 0), WhenItWas.FULL);
        due("4: a 7th book, wrong", x.book(1, 0), WhenItWas.BAD);
        due("4: books", x.count(2), 6);
        due("4: clock(0, 0)", x.clock(0, 0), -1000);
        due("4: clock(0, 1)", x.clock(0, 1), 1000);
        due("4: clock(1, 0)", x.clock(1, 0), 1000);
        due("4: clock(2, 1)", x.clock(2, 1), -1000);
    }

    private static void trusting() {
        WhenItWas x = Check.with(1, 1);
        due("5: trust of no book", x.trust(1, 5), WhenItWas.BAD);
        due("5: trust of book -1", x.trust(-1, 5), WhenItWas.BAD);
        due("5: trust 0", x.trust(0, 0), WhenItWas.BAD);
        due("5: trust 10", x.trust(0, 10), WhenItWas.BAD);
        due("5: trust at first", x.trust(0, 9), 5);
        due("5: trust then", x.trust(0, 1), 9);
        due("5: trust last", x.trust(0, 1), 1);
        x.book(0, 0);
        due("5: trust together", x.count(6), 6);
    }

    private static void tellingOn() {
        WhenItWas x = Check.with(2, 1);
        due("6: no such book", x.on(1, 0, 0, 0), WhenItWas.BAD);
        due("6: book -1", x.on(-1, 0, 0, 0), WhenItWas.BAD);
        due("6: no such thing", x.on(0, 2, 0, 0), WhenItWas.BAD);
        due("6: thing -1", x.on(0, -1, 0, 0), WhenItWas.BAD);
        due("6: x above y", x.on(0, 0, 1, 0), WhenItWas.BAD);
        due("6: x no day", x.on(0, 0, -200001, 0), WhenItWas.BAD);
        due("6: y no day", x.on(0, 0, 0, 200001), WhenItWas.BAD);
        due("6: both above", x.on(0, 0, 200001, 200001), WhenItWas.BAD);
        due("6: the least int", x.on(0, 0, Integer.MIN_VALUE, Integer.MAX_VALUE), WhenItWas.BAD);
        due("6: the edges", x.on(0, 1, -200000, 200000), 0);
        x.pass(7);
        due("6: the next", x.on(0, 0, 3, 4), 1);
        int[] want = {0, 0, WhenItWas.NONE, 3, 4, 7, WhenItWas.NONE, 1};
        for (int what = 0; what < 8; what++) due("10: about(1, " + what + ")", x.about(1, what), want[what]);
        due("10: about(0, 1)", x.about(0, 1), 1);
        due("10: about(0, 5)", x.about(0, 5), 0);
        due("6: the span", x.span(0, 1), 4);
    }

    private static void tellingApart() {
        WhenItWas x = Check.with(3, 1);
        x.book(0, 0);
        due("7: no such book", x.apart(2, 0, 1, 0, 0), WhenItWas.BAD);
        due("7: no such thing", x.apart(0, 3, 1, 0, 0), WhenItWas.BAD);
        due("7: no such other", x.apart(0, 0, 3, 0, 0), WhenItWas.BAD);
        due("7: other NONE", x.apart(0, 0, -1, 0, 0), WhenItWas.BAD);
        due("7: the same thing", x.apart(0, 1, 1, 0, 0), WhenItWas.BAD);
        due("7: x above y", x.apart(0, 0, 1, 1, 0), WhenItWas.BAD);
        due("7: x too low", x.apart(0, 0, 1, -100001, 0), WhenItWas.BAD);
        due("7: y too high", x.apart(0, 0, 1, 0, 100001), WhenItWas.BAD);
        due("7: the edges", x.apart(0, 0, 1, -100000, 100000), 0);
        due("7: the next", x.apart(1, 2, 1, 4, 6), 1);
        int[] want = {1, 2, 1, 4, 6, 0, WhenItWas.NONE, 1};
        for (int what = 0; what < 8; what++) due("10: about(1, " + what + ") apart", x.about(1, what), want[what]);
        x.on(0, 1, 10, 10);
        due("7: the thing is behind the other", x.span(2, 0), 14);
        due("7: the thing is behind the other", x.span(2, 1), 16);
        due("10: no such row", x.about(3, 0), -300000);
        due("10: row -1", x.about(-1, 0), -300000);
        due("10: what -1", x.about(0, -1), -300000);
        due("10: what 8", x.about(0, 8), -300000);
    }

    private static void fullOfRows() {
        WhenItWas x = Check.with(2, 1);
        for (int r = 0; r < 38; r++) due("6: on()", x.on(0, 0, 0, 0), r);
        due("7: apart()", x.apart(0, 0, 1, 0, 0), 38);
        due("6: on()", x.on(0, 0, 0, 0), 39);
        due("6: a 41st row", x.on(0, 0, 0, 0), WhenItWas.FULL);
        due("7: a 41st row", x.apart(0, 0, 1, 0, 0), WhenItWas.FULL);
        due("6: wrong comes ahead of full", x.on(0, 2, 0, 0), WhenItWas.BAD);
        due("7: wrong comes ahead of full", x.apart(0, 0, 0, 0, 0), WhenItWas.BAD);
        x.takeBack(3);
        due("6: rows taken back count", x.on(0, 0, 0, 0), WhenItWas.FULL);
        Check.typeAll(x, "1.3.200a");
        due("35: said() when full", x.said(0, 0), WhenItWas.FULL);
        x.sheet(0, 0, 5);
        x.put(0, 0, 2, -1);
        due("8: read() when full", x.read(0), 0);
        due("3: rows", x.count(3), 40);
        due("12: can() of the 40th", x.can(1L << 39), 1);
        due("12: can() of a 41st", x.can(1L << 40), WhenItWas.BAD);
        due("10: about(39, 4)", x.about(39, 4), 0);
    }

    private static void reading() {
        WhenItWas x = Check.with(3, 1);
        due("8: read(-1)", x.read(-1), WhenItWas.BAD);
        due("8: read(4)", x.read(4), WhenItWas.BAD);
        due("8: read() of a lost one", x.read(0), -11);
        due("8: the finding", x.count(8), 1);
        Check.fill(x, 0, 0, 0, 1, -1, -7, 9, 0, 2, 1, -3, 4, 0, 1, -1, 5);
        due("8: two are whole", x.read(0), 2);
        int[] first = {0, 1, -1, -7, 9, 0, -1, 1};
        int[] second = {0, 2, 1, -3, 4, 0, -1, 1};
        for (int what = 0; what < 8; what++) {
            due("8: about(0, " + what + ")", x.about(0, what), first[what]);
            due("8: about(1, " + what + ")", x.about(1, what), second[what]);
        }
        Check.fill(x, 1, 2, 0, 0, -1, -200000, 200000);
        due("8: of ints", x.read(1), 1);
        due("8: of ints, x", x.about(2, 3), -200000);
        x.sheet(2, 2, 0);
        due("8: of an empty one", x.read(2), 0);
        x.sheet(2, 2, 4);
        due("8: of none whole", x.read(2), 0);
        Check.fill(x, 3, 1, 0, 0, -1, 1, 1, 0, 0, -1, 1, 1, 0, 0, -1, 1, 1, 0, 0, -1, 1, 1,
                0, 0, -1, 1, 1, 0, 0, -1, 1, 1, 0, 0, -1, 1, 1, 0, 0, -1, 1, 1);
        due("8: eight at most", x.read(3), 8);
        due("8: all told", x.count(3), 11);
    }

    private static void readingStops() {
        WhenItWas x = Check.with(2, 1);
        Check.fill(x, 0, 2, 0, 0, -1, 1, 1, 0, 0, -1, 2, 1, 0, 0, -1, 1, 1);
        due("8: stops at x above y", x.read(0), 1);
        due("8: one told", x.count(3), 1);
        Check.fill(x, 0, 2, 0, 0, -2, 1, 1);
        due("8: other -2", x.read(0), 0);
        Check.fill(x, 0, 2, 0, 0, 0, 1, 1);
        due("8: the same thing", x.read(0), 0);
        Check.fill(x, 0, 2, 0, 0, 1, 1, 100001);
        due("8: too far apart", x.read(0), 0);
        Check.fill(x, 0, 2, 1, 0, 1, 1, 1);
        due("8: no such book", x.read(0), 0);
        for (int r = 1; r < 39; r++) x.on(0, 0, 0, 0);
        Check.fill(x, 0, 2, 0, 0, 1, 1, 1, 0, 0, 1, 1, 1);
        due("8: stops when full", x.read(0), 1);
    }

    private static void takingBack() {
        WhenItWas x = Check.with(1, 1);
        due("9: no row", x.takeBack(0), WhenItWas.BAD);
        x.on(0, 0, 1, 1);
        x.on(0, 0, 1, 2);
        due("9: row -1", x.takeBack(-1), WhenItWas.BAD);
        due("9: row 2", x.takeBack(2), WhenItWas.BAD);
        x.pass(4);
        x.asOf(1);
        due("9: taken back", x.takeBack(0), 1);
        due("9: again", x.takeBack(0), WhenItWas.NOT);
        due("9: on the day, not as of", x.about(0, 6), 4);
        due("9: still known as of 1", x.about(0, 7), 1);
        x.asOf(3);
        due("9: still known as of 3", x.about(0, 7), 1);
        x.asOf(4);
        due("9: not as of 4", x.about(0, 7), 0);
        due("9: known ones", x.count(4), 1);
        x.asOf(WhenItWas.NONE);
        due("9: not now", x.about(0, 7), 0);
        int row = x.on(0, 0, 9, 9);
        x.takeBack(row);
        x.asOf(4);
        due("9: told and taken back on a day: never known", x.about(row, 7), 0);
    }

    private static void asOfDays() {
        WhenItWas x = Check.with(1, 1);
        due("11: asOf(1) on day 0", x.asOf(1), WhenItWas.BAD);
        due("11: asOf(-2)", x.asOf(-2), WhenItWas.BAD);
        due("11: asOf(0)", x.asOf(0), WhenItWas.NONE);
        due("11: refused ones change nothing", x.asOf(5), WhenItWas.BAD);
        x.pass(10);
        due("11: it was 0", x.asOf(10), 0);
        due("11: asOf(11)", x.asOf(11), WhenItWas.BAD);
        x.on(0, 0, 5, 6);
        due("11: known as of the day", x.count(4), 1);
        x.asOf(9);
        due("11: not known the day before", x.count(4), 0);
        due("11: nor the span", x.span(0, 0), -200000);
        x.pass(5);
        due("11: as of stays when days pass", x.asOf(WhenItWas.NONE), 9);
        due("11: the day", x.span(0, 0), 5);
        due("11: none", x.asOf(WhenItWas.NONE), WhenItWas.NONE);
    }
}
