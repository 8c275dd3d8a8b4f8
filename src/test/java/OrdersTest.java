/** Promises 25 to 29: what surely came first, orders, shares, the best question. */
public final class OrdersTest {
    private static final Check CHECK = new Check("OrdersTest");

    public static void main(String[] args) {
        ahead();
        aheadByDaysAndClocks();
        noThings();
        diamond();
        shares();
        question();
        notAllCanBe();
        CHECK.end();
    }

    private static void due(String call, long got, long want) {
        CHECK.due(call, got, want);
    }

    private static void ahead() {
        WhenItWas x = Check.with(3, 1);
        due("25: of itself", x.ahead(1, 1), WhenItWas.BAD);
        due("25: no such thing", x.ahead(3, 0), WhenItWas.BAD);
        due("25: no such other", x.ahead(0, 3), WhenItWas.BAD);
        due("25: thing -1", x.ahead(-1, 0), WhenItWas.BAD);
        due("25: nothing told", x.ahead(0, 1), 0);
        x.apart(0, 1, 0, 0, 5);
        due("25: perhaps the same day", x.ahead(0, 1), 0);
        x.apart(0, 1, 0, 1, 5);
        due("25: at least a day", x.ahead(0, 1), 1);
        due("25: not the other", x.ahead(1, 0), 0);
        x.apart(0, 2, 0, -9, -1);
        due("25: ahead by below 0", x.ahead(2, 0), 1);
        due("25: by a chain", x.ahead(2, 1), 1);
        due("26: one order", x.orders(), 1);
    }

    private static void aheadByDaysAndClocks() {
        WhenItWas x = Check.with(3, 1);
        x.on(0, 0, 10, 20);
        x.on(0, 1, 20, 30);
        due("25: perhaps both on 20", x.ahead(0, 1), 0);
        x.on(0, 1, 21, 30);
        due("25: by days", x.ahead(0, 1), 1);
        x.book(-500, 500);
        x.on(1, 2, 40, 41);
        x.on(1, 1, 42, 60);
        due("25: by one clock", x.ahead(2, 1), 1);
        due("25: not so the other", x.ahead(2, 0), 0);
        due("26: two orders", x.orders(), 2);
    }

    private static void noThings() {
        WhenItWas x = new WhenItWas();
        due("26: of no things", x.orders(), 1);
        due("29: of no things", x.question(), WhenItWas.NONE);
        due("28: of no things", x.first(0), Check.asLong(WhenItWas.BAD));
        x.thing();
        due("26: of one", x.orders(), 1);
        due("28: of one", x.first(0), 1);
        due("29: of one", x.question(), WhenItWas.NONE);
    }

    private static void diamond() {
        WhenItWas x = Check.with(5, 1);
        x.apart(0, 1, 0, 1, 9);
        x.apart(0, 2, 0, 1, 9);
        x.apart(0, 3, 1, 1, 9);
        x.apart(0, 3, 2, 1, 9);
        due("26: a diamond and one free", x.orders(), 10);
        due("28: the first of the diamond", x.first(0), 8);
        due("28: the free one", x.first(4), 2);
        due("28: never", x.first(1), 0);
        due("28: no such thing", x.first(5), Check.asLong(WhenItWas.BAD));
        due("28: thing -1", x.first(-1), Check.asLong(WhenItWas.BAD));
        due("27: the free one ahead of 0, above", x.share(4, 0, 0), 1);
        due("27: the free one ahead of 0, below", x.share(4, 0, 1), 5);
        due("27: 0 ahead of the free one, above", x.share(0, 4, 0), 4);
        due("27: 0 ahead of the free one, below", x.share(0, 4, 1), 5);
        due("27: 1 ahead of 2, above", x.share(1, 2, 0), 1);
        due("27: 1 ahead of 2, below", x.share(1, 2, 1), 2);
        due("29: the first that halves them", x.question(), 102);
    }

    private static void shares() {
        WhenItWas x = Check.with(12, 1);
        due("27: no such thing", x.share(12, 0, 0), Check.asLong(WhenItWas.BAD));
        due("27: no such other", x.share(0, -1, 0), Check.asLong(WhenItWas.BAD));
        due("27: what 2", x.share(0, 1, 2), Check.asLong(WhenItWas.BAD));
        due("27: what -1", x.share(0, 1, -1), Check.asLong(WhenItWas.BAD));
        due("27: one with itself, above", x.share(3, 3, 0), Check.asLong(WhenItWas.BAD));
        due("27: one with itself, below", x.share(3, 3, 1), Check.asLong(WhenItWas.BAD));
        x.apart(0, 1, 0, 1, 100000);
        due("26: half of 12!", x.orders(), 239500800L);
        due("27: surely, above", x.share(0, 1, 0), 1);
        due("27: surely, below", x.share(0, 1, 1), 1);
        due("27: never, above", x.share(1, 0, 0), 0);
        due("27: never, below", x.share(1, 0, 1), 1);
        due("27: of three a third, above", x.share(11, 0, 0), 1);
        due("27: of three a third, below", x.share(11, 0, 1), 3);
        due("27: two thirds, above", x.share(0, 5, 0), 2);
        due("28: of the later none", x.first(1), 0);
        due("28: of the earlier twice as many", x.first(0), 39916800L);
        due("28: of a free one half", x.first(7), 19958400L);
        due("29: the free ones are best asked", x.question(), 203);
    }

    private static void question() {
        WhenItWas x = Check.with(3, 1);
        due("29: all free", x.question(), 1);
        x.apart(0, 0, 2, 1, 9);
        due("29: a free one and two in order: both alike", x.question(), 1);
        WhenItWas y = Check.with(4, 1);
        y.apart(0, 1, 0, 1, 9);
        y.apart(0, 2, 1, 1, 9);
        due("29: the middle one halves", y.question(), 103);
        y.apart(0, 3, 2, 1, 9);
        due("29: nothing left", y.question(), WhenItWas.NONE);
        WhenItWas z = Check.with(12, 1);
        for (int t = 1; t < 11; t++) z.apart(0, t, t - 1, 1, 9);
        due("29: the middle of eleven", z.question(), 511);
        due("29: asked again", z.question(), 511);
        WhenItWas w = Check.with(5, 1);
        w.apart(0, 0, 2, 1, 9);
        w.apart(0, 1, 3, 1, 9);
        w.apart(0, 4, 3, 1, 9);
        due("26: of two branches", w.orders(), 20);
        due("29: of two branches", w.question(), 104);
    }

    private static void notAllCanBe() {
        WhenItWas x = Check.with(2, 1);
        x.on(0, 0, 1, 1);
        x.on(0, 0, 2, 2);
        due("25: not", x.ahead(0, 1), WhenItWas.NOT);
        due("25: wrong first", x.ahead(0, 0), WhenItWas.BAD);
        due("26: not", x.orders(), Check.asLong(WhenItWas.NOT));
        due("27: not", x.share(0, 1, 0), Check.asLong(WhenItWas.NOT));
        due("27: wrong first", x.share(0, 1, 2), Check.asLong(WhenItWas.BAD));
        due("27: not all can be, itself: wrong first", x.share(1, 1, 0), Check.asLong(WhenItWas.BAD));
        due("28: not", x.first(0), Check.asLong(WhenItWas.NOT));
        due("28: wrong first", x.first(2), Check.asLong(WhenItWas.BAD));
        due("29: not", x.question(), WhenItWas.NOT);
    }
}
