/** Promises 23 and 24: which rows are to be doubted. */
public final class DoubtsTest {
    private static final Check CHECK = new Check("DoubtsTest");

    public static void main(String[] args) {
        fewest();
        trustDecides();
        leastBits();
        allOfThem();
        blameAlone();
        twelveAtMost();
        allAgainstAll();
        asOf();
        CHECK.end();
    }

    private static void due(String call, long got, long want) {
        CHECK.due(call, got, want);
    }

    private static void fewest() {
        WhenItWas x = Check.with(2, 2);
        due("24: no row", x.blamed(0), WhenItWas.BAD);
        x.on(0, 0, 5, 5);
        x.on(0, 0, 5, 6);
        due("23: all can be", x.doubts(), 0);
        due("24: all can be", x.blamed(1), 0);
        due("24: row -1", x.blamed(-1), WhenItWas.BAD);
        x.trust(1, 9);
        x.on(1, 0, 9, 9);
        due("23: the fewest, though trusted more", x.doubts(), 4);
        due("24: it is blamed", x.blamed(2), 1);
        due("24: the others are not", x.blamed(0), 0);
        x.on(1, 1, 0, 0);
        due("24: one that has no part in it", x.blamed(3), 0);
        due("24: no such row", x.blamed(4), WhenItWas.BAD);
        x.takeBack(3);
        due("24: not known", x.blamed(3), WhenItWas.NOT);
    }

    private static void trustDecides() {
        WhenItWas x = Check.with(2, 3);
        x.trust(1, 4);
        x.trust(2, 6);
        x.on(2, 0, 1, 1);
        x.on(1, 0, 2, 2);
        due("23: the least trusted", x.doubts(), 2);
        due("24: either", x.blamed(0), 1);
        due("24: either", x.blamed(1), 1);
        x.trust(1, 7);
        due("23: the other now", x.doubts(), 1);
        x.on(0, 1, 1, 1);
        x.on(2, 1, 2, 2);
        due("23: two, one of each", x.doubts(), 1 | 4);
        for (int row = 0; row < 4; row++) due("24: in two of four sets", x.blamed(row), 2);
        x.trust(0, 9);
        due("23: trust together", x.doubts(), 1 | 8);
    }

    private static void leastBits() {
        WhenItWas x = Check.with(3, 1);
        x.on(0, 2, 1, 1);
        x.on(0, 0, 1, 1);
        x.apart(0, 1, 0, 3, 3);
        x.on(0, 1, 1, 1);
        due("23: of like ones the least bits", x.doubts(), 2);
        due("24: each of the three", x.blamed(1), 1);
        due("24: each of the three", x.blamed(2), 1);
        due("24: each of the three", x.blamed(3), 1);
        due("24: not the first", x.blamed(0), 0);
    }

    private static void allOfThem() {
        WhenItWas x = Check.with(1, 0);
        x.book(-5, -1);
        x.on(0, 0, 200000, 200000);
        due("23: one that cannot be by itself", x.doubts(), 1);
        due("24: one that cannot be by itself", x.blamed(0), 1);
        x.on(0, 0, 199999, 200000);
        due("23: another that can", x.doubts(), 1);
        x.on(0, 0, 200000, 200000);
        due("23: two of three", x.doubts(), 5);
        due("24: the one that can", x.blamed(1), 0);
    }

    private static void blameAlone() {
        WhenItWas x = Check.with(1, 1);
        x.on(0, 0, 1, 1);
        x.on(0, 0, 2, 2);
        x.on(0, 0, 3, 3);
        due("24: with no doubts() ahead of it", x.blamed(2), 2);
        due("24: asked again", x.blamed(2), 2);
    }

    private static void twelveAtMost() {
        WhenItWas x = Check.with(1, 1);
        for (int r = 0; r < 12; r++) x.on(0, 0, 1, 1);
        x.on(0, 0, 1, 1);
        due("23: thirteen that can be", x.doubts(), 0);
        due("24: thirteen that can be", x.blamed(12), 0);
        x.takeBack(0);
        x.on(0, 0, 2, 2);
        due("23: thirteen that cannot", x.doubts(), Check.asLong(WhenItWas.FULL));
        due("24: thirteen that cannot", x.blamed(13), WhenItWas.FULL);
        due("24: not known comes first", x.blamed(0), WhenItWas.NOT);
        due("24: wrong comes first", x.blamed(14), WhenItWas.BAD);
        x.takeBack(1);
        due("23: twelve", x.doubts(), 1L << 13);
        due("24: twelve", x.blamed(13), 1);
    }

    private static void allAgainstAll() {
        WhenItWas x = Check.with(1, 2);
        for (int r = 0; r < 28; r++) {
            x.on(0, 0, 0, 0);
            x.takeBack(r);
        }
        for (int r = 28; r < 40; r++) x.on(r == 33 ? 1 : 0, 0, r, r);
        x.trust(1, 6);
        long all = (1L << 40) - (1L << 28);
        due("23: eleven of twelve, the trusted one stays", x.doubts(), all & ~(1L << 33));
        due("24: in all but one", x.blamed(39), 11);
        due("24: in all but one", x.blamed(33), 11);
        x.trust(1, 5);
        due("23: of like ones the least bits: the last stays", x.doubts(), all & ~(1L << 39));
    }

    private static void asOf() {
        WhenItWas x = Check.with(1, 1);
        x.on(0, 0, 1, 1);
        x.pass(1);
        x.on(0, 0, 2, 2);
        x.pass(1);
        x.takeBack(0);
        due("23: now", x.doubts(), 0);
        x.asOf(1);
        due("23: as of 1", x.doubts(), 1);
        due("24: as of 1", x.blamed(0), 1);
        x.asOf(0);
        due("23: as of 0", x.doubts(), 0);
        due("24: as of 0 not known", x.blamed(1), WhenItWas.NOT);
    }
}
