/** Promises 36 to 43: sheets, counts, the digest. */
public final class SheetsTest {
    private static final Check CHECK = new Check("SheetsTest");

    public static void main(String[] args) {
        sheet();
        lose();
        put();
        get();
        copy();
        copyRefused();
        write();
        count();
        digest();
        CHECK.end();
    }

    private static void due(String call, long got, long want) {
        CHECK.due(call, got, want);
    }

    private static void found(WhenItWas x, String call, long got, int number) {
        due(call, got, -10 - number);
        due(call + ": the finding", x.count(8), number);
    }

    private static void sheet() {
        WhenItWas x = new WhenItWas();
        due("36: sheet 4", x.sheet(4, 0, 1), WhenItWas.BAD);
        due("36: sheet -1", x.sheet(-1, 0, 1), WhenItWas.BAD);
        due("36: type 3", x.sheet(0, 3, 1), WhenItWas.BAD);
        due("36: type -1", x.sheet(0, -1, 1), WhenItWas.BAD);
        due("36: above 40", x.sheet(0, 0, 41), WhenItWas.BAD);
        due("36: wrong comes first", x.sheet(0, 3, -1), WhenItWas.BAD);
        due("36: refusals find nothing", x.count(8), 0);
        found(x, "36: below 0", x.sheet(0, 0, -1), 5);
        due("36: it is still lost", x.lose(0), -11);
        found(x, "36: the least int", x.sheet(0, 0, Integer.MIN_VALUE), 5);
        due("36: 40", x.sheet(3, 2, 40), 40);
        for (int i = 0; i < 40; i++) due("36: 0 at first", x.get(3, 2, i), 0);
        for (int i = 0; i < 40; i++) x.put(3, 2, i, i + 1);
        due("36: none", x.sheet(2, 1, 0), 0);
        due("36: a neighbour is as it was", x.get(3, 2, 0), 1);
        due("36: another type", x.sheet(3, 0, 40), 40);
        for (int i = 0; i < 40; i++) due("36: 0 again", x.get(3, 0, i), 0);
        x.put(3, 0, 1, 9);
        found(x, "36: below 0 changes nothing", x.sheet(3, 2, -7), 5);
        due("36: it is as it was", x.get(3, 0, 1), 9);
    }

    private static void lose() {
        WhenItWas x = new WhenItWas();
        due("37: sheet 4", x.lose(4), WhenItWas.BAD);
        due("37: sheet -1", x.lose(-1), WhenItWas.BAD);
        found(x, "37: lost already", x.lose(1), 1);
        x.sheet(1, 1, 17);
        due("37: how many", x.lose(1), 17);
        found(x, "37: lost again", x.lose(1), 1);
        x.sheet(1, 1, 0);
        due("37: of none", x.lose(1), 0);
    }

    private static void put() {
        WhenItWas x = new WhenItWas();
        due("38: sheet 4", x.put(4, 0, 0, 0), WhenItWas.BAD);
        due("38: type 3", x.put(0, 3, 0, 0), WhenItWas.BAD);
        due("38: type -1", x.put(0, -1, 0, 0), WhenItWas.BAD);
        found(x, "38: lost", x.put(0, 0, 0, 0), 1);
        x.sheet(0, 0, 3);
        x.sheet(1, 1, 3);
        x.sheet(2, 2, 3);
        found(x, "38: another type", x.put(0, 1, 9, 0), 3);
        found(x, "38: index 3", x.put(0, 0, 3, 0), 2);
        found(x, "38: index -1", x.put(0, 0, -1, 0), 2);
        due("38: a byte", x.put(0, 0, 2, 0x1280), 1);
        due("38: its lowest bits", x.get(0, 0, 2), -128);
        due("38: a short", x.put(1, 1, 0, 0x1ffff), 1);
        due("38: its lowest bits", x.get(1, 1, 0), -1);
        x.put(1, 1, 1, 32768);
        due("38: its lowest bits", x.get(1, 1, 1), -32768);
        due("38: an int", x.put(2, 2, 1, Integer.MIN_VALUE), 1);
        due("38: all bits", x.get(2, 2, 1), Integer.MIN_VALUE);
        due("38: others are as they were", x.get(2, 2, 0), 0);
    }

    private static void get() {
        WhenItWas x = new WhenItWas();
        int least = Integer.MIN_VALUE;
        due("39: sheet 4", x.get(4, 0, 0), least);
        due("39: type 3", x.get(0, 3, 0), least);
        due("39: no finding yet", x.count(8), 0);
        due("39: lost", x.get(0, 0, 0), least);
        due("39: lost, the finding", x.count(8), 1);
        x.sheet(0, 1, 2);
        due("39: another type", x.get(0, 0, 5), least);
        due("39: another type, the finding", x.count(8), 3);
        due("39: index 2", x.get(0, 1, 2), least);
        due("39: index, the finding", x.count(8), 2);
        due("39: index -1", x.get(0, 1, -1), least);
        x.put(0, 1, 1, 300);
        due("39: an item", x.get(0, 1, 1), 300);
        due("39: the finding stays", x.count(8), 2);
    }

    private static void holds(WhenItWas x, int s, int type, int... items) {
        for (int i = 0; i < items.length; i++) due("40: item " + i, x.get(s, type, i), items[i]);
    }

    private static void copy() {
        WhenItWas x = new WhenItWas();
        Check.fill(x, 0, 1, 1, 2, 3, 4, 5);
        Check.fill(x, 1, 1, 6, 7, 8);
        due("40: two of them", x.copy(0, 3, 1, 1, 2), 1);
        holds(x, 1, 1, 6, 4, 5);
        holds(x, 0, 1, 1, 2, 3, 4, 5);
        due("40: onto itself, up", x.copy(0, 0, 0, 1, 4), 1);
        holds(x, 0, 1, 1, 1, 2, 3, 4);
        due("40: onto itself, down", x.copy(0, 1, 0, 0, 4), 1);
        holds(x, 0, 1, 1, 2, 3, 4, 4);
        due("40: none, at the end", x.copy(0, 5, 1, 3, 0), 1);
        due("40: all", x.copy(1, 0, 0, 2, 3), 1);
        holds(x, 0, 1, 1, 2, 6, 4, 5);
    }

    private static void copyRefused() {
        WhenItWas x = new WhenItWas();
        due("40: sheet 4", x.copy(4, 0, 0, 0, 0), WhenItWas.BAD);
        due("40: to sheet -1", x.copy(0, 0, -1, 0, 0), WhenItWas.BAD);
        x.sheet(0, 0, 3);
        found(x, "40: to a lost one", x.copy(0, 9, 1, 0, 1), 1);
        found(x, "40: from a lost one", x.copy(1, 0, 0, 0, 1), 1);
        x.sheet(1, 2, 3);
        found(x, "40: unlike types", x.copy(0, 9, 1, 0, 1), 4);
        Check.fill(x, 1, 0, 7, 8);
        found(x, "40: i below 0", x.copy(0, -1, 1, 0, 1), 2);
        found(x, "40: j below 0", x.copy(0, 0, 1, -1, 1), 2);
        found(x, "40: n below 0", x.copy(0, 0, 1, 0, -1), 2);
        found(x, "40: not so many in s", x.copy(0, 2, 1, 0, 2), 2);
        found(x, "40: not so many in t", x.copy(0, 0, 1, 1, 2), 2);
        found(x, "40: none beyond the end", x.copy(0, 4, 1, 0, 0), 2);
        found(x, "40: a sum that wraps", x.copy(0, 2, 1, 0, Integer.MAX_VALUE), 2);
        found(x, "40: an index that wraps", x.copy(0, Integer.MAX_VALUE, 1, 0, 1), 2);
        holds(x, 1, 0, 7, 8);
    }

    private static void write() {
        WhenItWas x = new WhenItWas();
        x.thing();
        x.thing();
        x.book(0, 0);
        x.on(0, 0, 300, 500);
        x.on(0, 1, -4, 70000);
        due("41: sheet 4", x.write(4), WhenItWas.BAD);
        found(x, "41: lost", x.write(0), 1);
        x.sheet(0, 2, 5);
        x.put(0, 2, 4, 9);
        due("41: four", x.write(0), 4);
        holds(x, 0, 2, 300, 500, -4, 70000, 9);
        x.sheet(1, 0, 3);
        due("41: as many as there are", x.write(1), 3);
        holds(x, 1, 0, 44, -12, -4);
        x.sheet(2, 1, 4);
        due("41: of shorts", x.write(2), 4);
        holds(x, 2, 1, 300, 500, -4, 4464);
        x.sheet(3, 1, 0);
        due("41: of none", x.write(3), 0);
        x.thing();
        x.sheet(3, 2, 40);
        due("41: six", x.write(3), 6);
        holds(x, 3, 2, 300, 500, -4, 70000, -200000, 200000, 0);
        x.on(0, 0, 0, 0);
        due("41: not all can be", x.write(0), WhenItWas.NOT);
        holds(x, 0, 2, 300, 500, -4, 70000, 9);
        x.lose(0);
        found(x, "41: lost comes first", x.write(0), 1);
    }

    private static void count() {
        WhenItWas x = new WhenItWas();
        due("42: what -1", x.count(-1), WhenItWas.BAD);
        due("42: what 9", x.count(9), WhenItWas.BAD);
        x.thing();
        x.thing();
        x.thing();
        x.book(0, 0);
        x.book(0, 0);
        x.trust(1, 8);
        x.on(0, 0, 1, 2);
        x.apart(0, 0, 1, 1, 2);
        x.on(1, 0, 1, 2);
        x.pass(6);
        x.on(1, 2, 1, 2);
        x.takeBack(0);
        x.type(1);
        x.type(2);
        int[] now = {6, 3, 2, 4, 3, 2, 13, 2, 0};
        for (int what = 0; what <= 8; what++) due("42: count(" + what + ")", x.count(what), now[what]);
        x.asOf(5);
        due("42: known as of 5", x.count(4), 3);
        due("42: ON as of 5", x.count(5), 2);
        due("42: rows as of 5", x.count(3), 4);
        due("42: the day is not as of", x.count(0), 6);
    }

    private static long hash(long... parts) {
        long h = 17;
        for (long part : parts) h = 31 * h + part;
        return h;
    }

    private static void digest() {
        WhenItWas x = new WhenItWas();
        due("43: of a new one", x.digest(), hash(0, 0, 0, 0, 0, 0, 0, 0, 1, 1, 0));
        x.thing();
        x.thing();
        x.book(-1, 4);
        x.pass(3);
        x.on(0, 1, 50, 60);
        x.type('7');
        x.lose(0);
        due("43: of a small one", x.digest(), hash(3, 2, 1, 1, 1, 1, 5, 1,
                0, 1, -1, 50, 60, 3, -1, 1, 1, -200000, 200000, 46, 61, -1, 4, 2, 1));
        x.on(0, 1, 0, 0);
        x.takeBack(1);
        x.asOf(2);
        due("43: as of a day", x.digest(), hash(3, 2, 1, 2, 0, 0, 5, 1, 0, 1, -1, 50, 60, 3, -1, 0,
                0, 1, -1, 0, 0, 3, 3, 0, 1, -200000, 200000, -200000, 200000, -1, 4, 2, 1));
        x.asOf(-1);
        x.on(0, 1, 0, 0);
        due("43: where not all can be", x.digest(), hash(3, 2, 1, 3, 2, 2, 5, 1, 0, 1, -1, 50, 60, 3, -1, 1,
                0, 1, -1, 0, 0, 3, 3, 0, 0, 1, -1, 0, 0, 3, -1, 1, 0,
                -300001, -300001, -300001, -300001, -300001, -300001, Long.MIN_VALUE + 3, 1));
        WhenItWas y = new WhenItWas();
        y.thing();
        y.thing();
        y.thing();
        y.book(-1, 4);
        y.book(2, 9);
        y.book(-7, -3);
        y.on(1, 2, 0, 0);
        y.on(2, 1, 9, 9);
        due("43: of more books", y.digest(), hash(0, 3, 3, 2, 2, 2, 15, 0,
                1, 2, -1, 0, 0, 0, -1, 1, 2, 1, -1, 9, 9, 0, -1, 1, 1,
                -200000, 200000, 12, 16, -9, -2, -1, 4, 2, 9, -7, -3, 3, 0));
        due("43: it changes nothing", x.digest(), x.digest());
        due("43: nor the finding", x.count(8), 1);
    }
}
