import java.util.ArrayList;
import java.util.List;

/** Objects that were told something, and all that can be seen of an object. */
final class Scenes {
    static final int NONE = WhenItWas.NONE;

    private Scenes() {
    }

    /** Three things, two books, four rows (the second taken back), day 7 as of 5, three sheets, a date, a finding 5. */
    static WhenItWas busy() {
        WhenItWas x = new WhenItWas();
        for (int t = 0; t < 3; t++) x.thing();
        x.book(-2, 3);
        x.book(10, 20);
        x.trust(0, 4);
        x.trust(1, 7);
        x.on(0, 0, 100, 110);
        x.on(1, 1, 50, 60);
        x.pass(3);
        x.apart(0, 2, 0, 5, 9);
        x.on(1, 1, 55, 58);
        x.pass(4);
        x.takeBack(1);
        x.asOf(5);
        Check.fill(x, 0, 0, 1, 2, 3, 4, 5, 6, 7);
        Check.fill(x, 1, 1, 300, -300);
        Check.fill(x, 2, 2, 100000, -5, 7, 8);
        Check.typeAll(x, "1.3.200a");
        x.sheet(3, 0, -1);
        return x;
    }

    /** The busy one as of its day, with a row more: the rows 3 and 4 cannot both be. */
    static WhenItWas torn() {
        WhenItWas x = busy();
        x.on(1, 1, 0, 0);
        x.asOf(NONE);
        return x;
    }

    /** As many things, books, rows and days of knowing as there can be; all rows can be; a date; a finding 5. */
    static WhenItWas packed() {
        WhenItWas x = Check.with(12, 6);
        for (int r = 0; r < 20; r++) x.on(r % 6, r % 12, r % 12, 50 + r % 12);
        for (int k = 0; k < 3; k++) x.pass(100);
        for (int r = 20; r < 40; r++) x.apart(r % 6, r % 12, (r + 1) % 12, -60, 60);
        x.pass(99);
        Check.fill(x, 0, 2, 0, 0, -1, 0, 5);
        Check.typeAll(x, "1.3.200a");
        x.sheet(3, 0, -1);
        return x;
    }

    /** The busy one with as many bytes of dates as there can be: 32 behind a whole date. */
    static WhenItWas typedFull() {
        WhenItWas x = busy();
        for (int k = 8; k < 40; k++) x.type('-');
        return x;
    }

    /** Thirteen rows, known, which cannot all be: the last one against the others. */
    static WhenItWas thirteenTorn() {
        WhenItWas x = busy();
        x.asOf(NONE);
        while (x.count(4) < 12) x.on(0, 0, 100, 110);
        x.on(0, 0, 0, 0);
        return x;
    }

    /** All that can be seen of an object but count(8). The object is used up by it, in some 300 calls. */
    static List<Long> picture(WhenItWas x) {
        List<Long> seen = new ArrayList<>();
        seen.add(x.digest());
        seen.add((long) x.asOf(NONE));
        seen.add(x.digest());
        for (int b = 0; b < x.count(2); b++) seen.add((long) x.trust(b, 5));
        for (int s = 0; s < 4; s++) addSheet(seen, x, s);
        // Of the text only what it says can be seen.
        int row = x.said(0, 0);
        seen.add((long) row);
        seen.add((long) x.about(row, 3));
        seen.add((long) x.about(row, 4));
        seen.add((long) x.thing());
        return seen;
    }

    private static void addSheet(List<Long> seen, WhenItWas x, int s) {
        for (int type = 0; type < 3; type++) {
            // A finding by which it can be told whether the next call finds something.
            x.sheet(s, 0, -1);
            seen.add((long) x.get(s, type, 0));
            int found = x.count(8);
            seen.add((long) found);
            if (found == 5) {
                for (int i = 1; i < 40; i++) seen.add((long) x.get(s, type, i));
            }
        }
        seen.add((long) x.lose(s));
    }
}
