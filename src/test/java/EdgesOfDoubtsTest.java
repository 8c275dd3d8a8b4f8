/** Boundary cases of the promises 23 and 24, one by one: which rows are to be doubted. */
public final class EdgesOfDoubtsTest {
    private static final int NONE = WhenItWas.NONE, BAD = WhenItWas.BAD, NOT = WhenItWas.NOT, FULL = WhenItWas.FULL;
    private static final int LEAST = Integer.MIN_VALUE, GREATEST = Integer.MAX_VALUE;

    public static void main(String[] args) throws IllegalAccessException {
        Cases.run(EdgesOfDoubtsTest.class, 23, 24);
    }

    private static void due(String call, long got, long want) {
        Cases.due(call, got, want);
    }

    /** So many rows, each on a day of its own. */
    private static WhenItWas eachAgainstEach(int rows) {
        WhenItWas x = Check.with(1, 1);
        for (int r = 0; r < rows; r++) x.on(0, 0, r, r);
        return x;
    }

    // ---- promise 23: doubts

    private static void p23_nothingToldNoDoubts() {
        due("doubts()", new WhenItWas().doubts(), 0);
    }

    private static void p23_whereAllCanBeNoDoubts() {
        due("doubts()", Scenes.busy().doubts(), 0);
        Cases.changesNothing(Scenes::busy, "doubts()", x -> x.doubts());
    }

    private static void p23_thirteenThatCanAllBeAreNotFull() {
        WhenItWas x = Check.with(1, 1);
        for (int r = 0; r < 13; r++) x.on(0, 0, 5, 5);
        due("doubts() of thirteen", x.doubts(), 0);
        due("doubts() of forty", Scenes.packed().doubts(), 0);
    }

    private static void p23_twelveKnownAreLookedAt() {
        long allButTheLast = (1L << 11) - 1;
        due("doubts() of twelve, each against each", eachAgainstEach(12).doubts(), allButTheLast);
    }

    private static void p23_thirteenKnownAreFull() {
        Cases.refused(Scenes::thirteenTorn, "doubts()", x -> x.doubts(), Long.MIN_VALUE + 4);
        Cases.refused(() -> eachAgainstEach(13), "doubts() of thirteen, each against each", x -> x.doubts(), Long.MIN_VALUE + 4);
        Cases.refused(() -> eachAgainstEach(40), "doubts() of forty, each against each", x -> x.doubts(), Long.MIN_VALUE + 4);
    }

    private static void p23_onlyKnownOnesCount() {
        WhenItWas x = eachAgainstEach(13);
        x.pass(1);
        x.takeBack(12);
        due("doubts() of thirteen, one taken back", x.doubts(), (1L << 11) - 1);
        x.asOf(0);
        due("doubts() as of the day before", x.doubts(), Long.MIN_VALUE + 4);
    }

    private static void p23_aRowThatCannotBeAlone() {
        WhenItWas x = Check.with(1, 0);
        x.book(-1, -1);
        x.on(0, 0, 200000, 200000);
        due("doubts()", x.doubts(), 1);
    }

    private static void p23_allRowsMayBeDoubted() {
        WhenItWas x = Check.with(1, 0);
        x.book(-1, -1);
        for (int r = 0; r < 12; r++) x.on(0, 0, 200000, 200000);
        due("doubts()", x.doubts(), (1L << 12) - 1);
    }

    private static void p23_theFewestAheadOfTheLeastTrusted() {
        WhenItWas x = Check.with(1, 2);
        x.trust(0, 9);
        x.trust(1, 1);
        x.on(1, 0, 5, 5);
        x.on(1, 0, 5, 5);
        x.on(0, 0, 6, 6);
        due("doubts(), trust 9 of one against 2 of two", x.doubts(), 4);
    }

    private static void p23_ofLikeOnesTheLeastTrusted() {
        WhenItWas x = Check.with(1, 2);
        x.on(0, 0, 5, 5);
        x.on(1, 0, 6, 6);
        x.trust(0, 2);
        x.trust(1, 1);
        due("doubts(), trust 2 and 1", x.doubts(), 2);
        x.trust(1, 3);
        due("doubts(), trust 2 and 3", x.doubts(), 1);
    }

    private static void p23_trustTogether() {
        WhenItWas x = Check.with(2, 4);
        x.on(0, 0, 5, 5);
        x.on(1, 0, 6, 6);
        x.on(2, 1, 5, 5);
        x.on(3, 1, 6, 6);
        x.trust(0, 9);
        x.trust(1, 8);
        x.trust(2, 1);
        x.trust(3, 2);
        due("doubts()", x.doubts(), 2 + 4);
    }

    private static void p23_ofLikeTrustTheLeastBits() {
        WhenItWas x = Check.with(1, 2);
        x.on(0, 0, 5, 5);
        x.on(1, 0, 6, 6);
        due("doubts(), trust 5 and 5", x.doubts(), 1);
    }

    private static void p23_theFortiethRow() {
        WhenItWas x = Check.with(1, 2);
        for (int r = 0; r < 38; r++) {
            x.on(0, 0, 0, 0);
            x.takeBack(r);
        }
        x.on(0, 0, 5, 5);
        x.on(1, 0, 6, 6);
        x.trust(1, 4);
        due("doubts()", x.doubts(), 1L << 39);
    }

    private static void p23_itChangesNothing() {
        Cases.changesNothing(Scenes::torn, "doubts()", x -> x.doubts());
        due("doubts()", Scenes.torn().doubts(), 8);
    }

    // ---- promise 24: blamed

    private static void p24_noSuchRowIsBad() {
        Cases.bad("blamed(-1)", x -> x.blamed(-1));
        Cases.bad("blamed(4) of four", x -> x.blamed(4));
        Cases.bad("blamed(least)", x -> x.blamed(LEAST));
        Cases.bad("blamed(greatest)", x -> x.blamed(GREATEST));
        Cases.refused(WhenItWas::new, "blamed(0) of none", x -> x.blamed(0), BAD);
        Cases.refused(Scenes::torn, "blamed(5) of five, not all can be", x -> x.blamed(5), BAD);
        Cases.refused(Scenes::packed, "blamed(40) of forty", x -> x.blamed(40), BAD);
    }

    private static void p24_oneNotKnownIsNot() {
        Cases.refused(Scenes::torn, "blamed(1), taken back", x -> x.blamed(1), NOT);
        Cases.refused(() -> {
            WhenItWas x = Scenes.busy();
            x.asOf(2);
            return x;
        }, "blamed(3), not yet told, all can be", x -> x.blamed(3), NOT);
    }

    private static void p24_thirteenKnownAreFull() {
        Cases.refused(Scenes::thirteenTorn, "blamed(0)", x -> x.blamed(0), FULL);
        Cases.refused(() -> eachAgainstEach(13), "blamed(12) of thirteen", x -> x.blamed(12), FULL);
    }

    private static void p24_badAndNotComeAheadOfFull() {
        Cases.refused(Scenes::thirteenTorn, "blamed(1), taken back", x -> x.blamed(1), NOT);
        Cases.refused(Scenes::thirteenTorn, "blamed(14) of fourteen", x -> x.blamed(14), BAD);
    }

    private static void p24_whereAllCanBeItIs0() {
        due("blamed(0)", Scenes.busy().blamed(0), 0);
        due("blamed(39) of forty", Scenes.packed().blamed(39), 0);
        WhenItWas x = Check.with(1, 1);
        for (int r = 0; r < 13; r++) x.on(0, 0, 5, 5);
        due("blamed(12) of thirteen", x.blamed(12), 0);
    }

    private static void p24_twelveKnownAreLookedAt() {
        WhenItWas x = eachAgainstEach(12);
        due("blamed(0) of twelve, each against each", x.blamed(0), 11);
        due("blamed(11) of twelve, each against each", x.blamed(11), 11);
    }

    private static void p24_inNoneOfTheSets() {
        WhenItWas x = Scenes.torn();
        due("blamed(0)", x.blamed(0), 0);
        due("blamed(3)", x.blamed(3), 1);
        due("blamed(4)", x.blamed(4), 1);
    }

    private static void p24_trustDoesNotMatter() {
        WhenItWas x = Check.with(1, 2);
        x.on(0, 0, 5, 5);
        x.on(1, 0, 6, 6);
        x.trust(1, 1);
        due("blamed(0)", x.blamed(0), 1);
        due("blamed(1)", x.blamed(1), 1);
    }

    private static void p24_setsOfTheFewestSizeAlone() {
        WhenItWas x = Check.with(1, 1);
        x.on(0, 0, 5, 5);
        x.on(0, 0, 5, 5);
        x.on(0, 0, 6, 6);
        due("blamed(0)", x.blamed(0), 0);
        due("blamed(1)", x.blamed(1), 0);
        due("blamed(2)", x.blamed(2), 1);
    }

    /** Six pairs of rows, one of each pair to be doubted: 64 sets, each row in the half of them. */
    private static void p24_inAsManySetsAsThereAre() {
        WhenItWas x = Check.with(6, 1);
        for (int t = 0; t < 6; t++) {
            x.on(0, t, 5, 5);
            x.on(0, t, 6, 6);
        }
        for (int r = 0; r < 12; r++) due("blamed(" + r + ")", x.blamed(r), 32);
        due("doubts()", x.doubts(), 0x555);
    }

    private static void p24_theFortiethRow() {
        WhenItWas x = Check.with(1, 1);
        for (int r = 0; r < 37; r++) {
            x.on(0, 0, 0, 0);
            x.takeBack(r);
        }
        x.on(0, 0, 5, 5);
        x.on(0, 0, 5, 5);
        x.on(0, 0, 6, 6);
        due("blamed(39)", x.blamed(39), 1);
        due("blamed(38)", x.blamed(38), 0);
        due("blamed(36)", x.blamed(36), NOT);
        x.asOf(NONE);
        due("blamed(39) again", x.blamed(39), 1);
    }
}
