/** Boundary cases of the promises 1 to 11, one by one: a new object, days of knowing, things, books, rows. */
public final class EdgesOfRowsTest {
    private static final int NONE = WhenItWas.NONE, BAD = WhenItWas.BAD, NOT = WhenItWas.NOT, FULL = WhenItWas.FULL;
    private static final int LEAST = Integer.MIN_VALUE, GREATEST = Integer.MAX_VALUE;

    public static void main(String[] args) throws IllegalAccessException {
        Cases.run(EdgesOfRowsTest.class, 1, 11);
    }

    private static void due(String call, long got, long want) {
        Cases.due(call, got, want);
    }

    private static void bad(String call, Cases.Act act) {
        Cases.bad(call, act);
    }

    // ---- promise 1: a new object

    private static void p01_theDayIs0() {
        due("count(0)", new WhenItWas().count(0), 0);
    }

    private static void p01_noThingsBooksRows() {
        WhenItWas x = new WhenItWas();
        for (int what = 1; what <= 6; what++) due("count(" + what + ")", x.count(what), 0);
    }

    private static void p01_noBytesOfDates() {
        due("count(7)", new WhenItWas().count(7), 0);
        due("wipe()", new WhenItWas().wipe(), 0);
    }

    private static void p01_noFindingYet() {
        due("count(8)", new WhenItWas().count(8), 0);
    }

    private static void p01_asOfIsNone() {
        due("asOf(0)", new WhenItWas().asOf(0), NONE);
    }

    private static void p01_eachSheetIsLost() {
        for (int s = 0; s < 4; s++) due("lose(" + s + ")", new WhenItWas().lose(s), -11);
    }

    private static void p01_twoObjectsShareNothing() {
        Cases.changesNothing(Scenes::busy, "another object is told much", x -> Scenes.packed().digest());
    }

    // ---- promise 2: pass

    private static void p02_theLeastPassIs1() {
        due("pass(1)", new WhenItWas().pass(1), 1);
    }

    private static void p02_aPassOf0IsBad() {
        bad("pass(0)", x -> x.pass(0));
    }

    private static void p02_aPassBelow0IsBad() {
        bad("pass(-1)", x -> x.pass(-1));
        bad("pass(least)", x -> x.pass(LEAST));
    }

    private static void p02_theGreatestPassIs100() {
        due("pass(100)", new WhenItWas().pass(100), 100);
    }

    private static void p02_aPassAbove100IsBad() {
        bad("pass(101)", x -> x.pass(101));
        bad("pass(greatest)", x -> x.pass(GREATEST));
    }

    /** The busy one on day 300. */
    private static WhenItWas on300() {
        WhenItWas x = Scenes.busy();
        x.pass(100);
        x.pass(100);
        x.pass(93);
        return x;
    }

    private static void p02_theLastDayIs399() {
        WhenItWas x = on300();
        due("pass(99) on 300", x.pass(99), 399);
        due("count(0)", x.count(0), 399);
    }

    private static void p02_aPassTo400IsBad() {
        Cases.refused(EdgesOfRowsTest::on300, "pass(100) on 300", x -> x.pass(100), BAD);
    }

    private static void p02_on399NoMorePasses() {
        Cases.refused(Scenes::packed, "pass(1) on 399", x -> x.pass(1), BAD);
    }

    private static void p02_aPassAbove399LeavesShorterOnes() {
        WhenItWas x = on300();
        due("pass(100)", x.pass(100), BAD);
        due("pass(98)", x.pass(98), 398);
        due("pass(2)", x.pass(2), BAD);
        due("pass(1)", x.pass(1), 399);
    }

    // ---- promise 3: thing

    private static void p03_theFirstThingIs0() {
        due("thing()", new WhenItWas().thing(), 0);
    }

    private static void p03_theTwelfthThingIs11() {
        due("thing()", Check.with(11, 0).thing(), 11);
    }

    private static void p03_aThirteenthThingIsFull() {
        Cases.refused(Scenes::packed, "thing()", x -> x.thing(), FULL);
        WhenItWas x = Check.with(12, 0);
        due("thing()", x.thing(), FULL);
        due("things then", x.count(1), 12);
    }

    // ---- promise 4: book

    private static void p04_theFirstBookIs0() {
        due("book(0, 0)", new WhenItWas().book(0, 0), 0);
    }

    private static void p04_theClockMayBeOffFromMinus1000To1000() {
        WhenItWas x = new WhenItWas();
        due("book(-1000, 1000)", x.book(-1000, 1000), 0);
        due("clock(0, 0)", x.clock(0, 0), -1000);
        due("clock(0, 1)", x.clock(0, 1), 1000);
    }

    private static void p04_aClockMayBeOffByOneNumberAlone() {
        WhenItWas x = new WhenItWas();
        due("book(1000, 1000)", x.book(1000, 1000), 0);
        due("book(-1000, -1000)", x.book(-1000, -1000), 1);
        due("clock(0, 0)", x.clock(0, 0), 1000);
        due("clock(1, 1)", x.clock(1, 1), -1000);
    }

    private static void p04_aLeastBelowMinus1000IsBad() {
        bad("book(-1001, 0)", x -> x.book(-1001, 0));
        bad("book(-1001, -1001)", x -> x.book(-1001, -1001));
        bad("book(least, 0)", x -> x.book(LEAST, 0));
    }

    private static void p04_aGreatestAbove1000IsBad() {
        bad("book(0, 1001)", x -> x.book(0, 1001));
        bad("book(1001, 1001)", x -> x.book(1001, 1001));
        bad("book(0, greatest)", x -> x.book(0, GREATEST));
        bad("book(least, greatest)", x -> x.book(LEAST, GREATEST));
    }

    private static void p04_aLeastAboveTheGreatestIsBad() {
        bad("book(1, 0)", x -> x.book(1, 0));
        bad("book(1000, -1000)", x -> x.book(1000, -1000));
        bad("book(greatest, least)", x -> x.book(GREATEST, LEAST));
    }

    private static void p04_theSixthBookIs5() {
        due("book(0, 0)", Check.with(0, 5).book(0, 0), 5);
    }

    private static void p04_aSeventhBookIsFull() {
        Cases.refused(Scenes::packed, "book(0, 0)", x -> x.book(0, 0), FULL);
    }

    private static void p04_badComesAheadOfFull() {
        Cases.refused(Scenes::packed, "book(1, 0)", x -> x.book(1, 0), BAD);
        Cases.refused(Scenes::packed, "book(0, 1001)", x -> x.book(0, 1001), BAD);
    }

    // ---- promise 5: trust

    private static void p05_trustIs5AtFirst() {
        due("trust(0, 1)", Check.with(0, 1).trust(0, 1), 5);
        due("trust(5, 1)", Check.with(0, 6).trust(5, 1), 5);
    }

    private static void p05_theLeastTrustIs1() {
        WhenItWas x = Check.with(0, 1);
        due("trust(0, 1)", x.trust(0, 1), 5);
        due("trust(0, 1) again", x.trust(0, 1), 1);
        due("count(6)", x.count(6), 1);
    }

    private static void p05_theGreatestTrustIs9() {
        WhenItWas x = Check.with(0, 1);
        due("trust(0, 9)", x.trust(0, 9), 5);
        due("trust(0, 9) again", x.trust(0, 9), 9);
        due("count(6)", x.count(6), 9);
    }

    private static void p05_trustBelow1IsBad() {
        bad("trust(0, 0)", x -> x.trust(0, 0));
        bad("trust(0, -1)", x -> x.trust(0, -1));
        bad("trust(0, least)", x -> x.trust(0, LEAST));
    }

    private static void p05_trustAbove9IsBad() {
        bad("trust(0, 10)", x -> x.trust(0, 10));
        bad("trust(0, greatest)", x -> x.trust(0, GREATEST));
    }

    private static void p05_noSuchBookIsBad() {
        bad("trust(-1, 5)", x -> x.trust(-1, 5));
        bad("trust(2, 5)", x -> x.trust(2, 5));
        bad("trust(least, 5)", x -> x.trust(LEAST, 5));
        bad("trust(greatest, 5)", x -> x.trust(GREATEST, 5));
        Cases.refused(WhenItWas::new, "trust(0, 5) of no books", x -> x.trust(0, 5), BAD);
        Cases.refused(Scenes::packed, "trust(6, 5) of six books", x -> x.trust(6, 5), BAD);
    }

    // ---- promise 6: on

    private static void p06_theFirstRowIs0() {
        due("on(0, 0, 1, 2)", Check.with(1, 1).on(0, 0, 1, 2), 0);
    }

    private static void p06_daysAreFromMinus200000To200000() {
        WhenItWas x = Check.with(1, 1);
        due("on(0, 0, -200000, 200000)", x.on(0, 0, -200000, 200000), 0);
        due("on(0, 0, -200000, -200000)", x.on(0, 0, -200000, -200000), 1);
        due("on(0, 0, 200000, 200000)", x.on(0, 0, 200000, 200000), 2);
        due("about(1, 3)", x.about(1, 3), -200000);
        due("about(2, 4)", x.about(2, 4), 200000);
    }

    private static void p06_anXBelowAllDaysIsBad() {
        bad("on(0, 0, -200001, 0)", x -> x.on(0, 0, -200001, 0));
        bad("on(0, 0, -200001, -200001)", x -> x.on(0, 0, -200001, -200001));
        bad("on(0, 0, least, 0)", x -> x.on(0, 0, LEAST, 0));
    }

    private static void p06_aYAboveAllDaysIsBad() {
        bad("on(0, 0, 0, 200001)", x -> x.on(0, 0, 0, 200001));
        bad("on(0, 0, 200001, 200001)", x -> x.on(0, 0, 200001, 200001));
        bad("on(0, 0, 0, greatest)", x -> x.on(0, 0, 0, GREATEST));
        bad("on(0, 0, least, greatest)", x -> x.on(0, 0, LEAST, GREATEST));
    }

    private static void p06_xMayBeY() {
        WhenItWas x = Check.with(1, 1);
        due("on(0, 0, 7, 7)", x.on(0, 0, 7, 7), 0);
        due("span(0, 0)", x.span(0, 0), 7);
        due("span(0, 1)", x.span(0, 1), 7);
    }

    private static void p06_anXAboveYIsBad() {
        bad("on(0, 0, 8, 7)", x -> x.on(0, 0, 8, 7));
        bad("on(0, 0, 200000, -200000)", x -> x.on(0, 0, 200000, -200000));
        bad("on(0, 0, greatest, least)", x -> x.on(0, 0, GREATEST, LEAST));
    }

    private static void p06_noSuchBookIsBad() {
        bad("on(-1, 0, 1, 2)", x -> x.on(-1, 0, 1, 2));
        bad("on(2, 0, 1, 2)", x -> x.on(2, 0, 1, 2));
        bad("on(least, 0, 1, 2)", x -> x.on(LEAST, 0, 1, 2));
        bad("on(greatest, 0, 1, 2)", x -> x.on(GREATEST, 0, 1, 2));
        Cases.refused(() -> Check.with(1, 0), "on(0, 0, 1, 2) of no books", x -> x.on(0, 0, 1, 2), BAD);
    }

    private static void p06_noSuchThingIsBad() {
        bad("on(0, -1, 1, 2)", x -> x.on(0, -1, 1, 2));
        bad("on(0, 3, 1, 2)", x -> x.on(0, 3, 1, 2));
        bad("on(0, least, 1, 2)", x -> x.on(0, LEAST, 1, 2));
        bad("on(0, greatest, 1, 2)", x -> x.on(0, GREATEST, 1, 2));
        Cases.refused(() -> Check.with(0, 1), "on(0, 0, 1, 2) of no things", x -> x.on(0, 0, 1, 2), BAD);
    }

    private static void p06_theLastBookAndThingAreTaken() {
        WhenItWas x = Check.with(12, 6);
        due("on(5, 11, 1, 2)", x.on(5, 11, 1, 2), 0);
        due("about(0, 0)", x.about(0, 0), 5);
        due("about(0, 1)", x.about(0, 1), 11);
    }

    private static WhenItWas withRows(int rows) {
        WhenItWas x = Check.with(2, 1);
        for (int r = 0; r < rows; r++) x.on(0, 0, -9, 9);
        return x;
    }

    private static void p06_theFortiethRowIs39() {
        due("on(0, 0, 1, 2)", withRows(39).on(0, 0, 1, 2), 39);
    }

    private static void p06_aFortyFirstRowIsFull() {
        Cases.refused(Scenes::packed, "on(0, 0, 1, 2)", x -> x.on(0, 0, 1, 2), FULL);
    }

    private static void p06_rowsTakenBackStillCount() {
        Cases.refused(() -> {
            WhenItWas x = withRows(40);
            for (int r = 0; r < 40; r++) x.takeBack(r);
            return x;
        }, "on(0, 0, 1, 2)", x -> x.on(0, 0, 1, 2), FULL);
    }

    private static void p06_badComesAheadOfFull() {
        Cases.refused(Scenes::packed, "on(6, 0, 1, 2)", x -> x.on(6, 0, 1, 2), BAD);
        Cases.refused(Scenes::packed, "on(0, 12, 1, 2)", x -> x.on(0, 12, 1, 2), BAD);
        Cases.refused(Scenes::packed, "on(0, 0, 2, 1)", x -> x.on(0, 0, 2, 1), BAD);
    }

    private static void p06_theDayAndWhatTheClockIsOffByComeToXToY() {
        WhenItWas x = Check.with(1, 0);
        x.book(1000, 1000);
        x.on(0, 0, 0, 3);
        due("span(0, 0)", x.span(0, 0), -1000);
        due("span(0, 1)", x.span(0, 1), -997);
    }

    private static void p06_toldOnTheDayNotAsOfADay() {
        WhenItWas x = Scenes.busy();
        due("on(0, 0, 1, 2)", x.on(0, 0, 1, 2), 4);
        due("about(4, 5)", x.about(4, 5), 7);
        due("about(4, 7)", x.about(4, 7), 0);
    }

    // ---- promise 7: apart

    private static void p07_daysApartAreFromMinus100000To100000() {
        WhenItWas x = Check.with(2, 1);
        due("apart(0, 0, 1, -100000, 100000)", x.apart(0, 0, 1, -100000, 100000), 0);
        due("apart(0, 0, 1, -100000, -100000)", x.apart(0, 0, 1, -100000, -100000), 1);
        due("apart(0, 0, 1, 100000, 100000)", x.apart(0, 0, 1, 100000, 100000), 2);
        due("about(1, 4)", x.about(1, 4), -100000);
        due("about(2, 3)", x.about(2, 3), 100000);
    }

    private static void p07_anXBelowMinus100000IsBad() {
        bad("apart(0, 0, 1, -100001, 0)", x -> x.apart(0, 0, 1, -100001, 0));
        bad("apart(0, 0, 1, -100001, -100001)", x -> x.apart(0, 0, 1, -100001, -100001));
        bad("apart(0, 0, 1, least, 0)", x -> x.apart(0, 0, 1, LEAST, 0));
    }

    private static void p07_aYAbove100000IsBad() {
        bad("apart(0, 0, 1, 0, 100001)", x -> x.apart(0, 0, 1, 0, 100001));
        bad("apart(0, 0, 1, 100001, 100001)", x -> x.apart(0, 0, 1, 100001, 100001));
        bad("apart(0, 0, 1, 0, greatest)", x -> x.apart(0, 0, 1, 0, GREATEST));
        bad("apart(0, 0, 1, least, greatest)", x -> x.apart(0, 0, 1, LEAST, GREATEST));
    }

    private static void p07_xMayBeY() {
        WhenItWas x = Check.with(2, 1);
        due("apart(0, 0, 1, 7, 7)", x.apart(0, 0, 1, 7, 7), 0);
        due("between(0, 1, 0)", x.between(0, 1, 0), 7);
        due("between(0, 1, 1)", x.between(0, 1, 1), 7);
    }

    private static void p07_anXAboveYIsBad() {
        bad("apart(0, 0, 1, 8, 7)", x -> x.apart(0, 0, 1, 8, 7));
        bad("apart(0, 0, 1, 100000, -100000)", x -> x.apart(0, 0, 1, 100000, -100000));
        bad("apart(0, 0, 1, greatest, least)", x -> x.apart(0, 0, 1, GREATEST, LEAST));
    }

    private static void p07_theSameThingIsBad() {
        bad("apart(0, 0, 0, 0, 0)", x -> x.apart(0, 0, 0, 0, 0));
        bad("apart(0, 2, 2, -1, 1)", x -> x.apart(0, 2, 2, -1, 1));
    }

    private static void p07_noSuchBookIsBad() {
        bad("apart(-1, 0, 1, 1, 2)", x -> x.apart(-1, 0, 1, 1, 2));
        bad("apart(2, 0, 1, 1, 2)", x -> x.apart(2, 0, 1, 1, 2));
        bad("apart(least, 0, 1, 1, 2)", x -> x.apart(LEAST, 0, 1, 1, 2));
        bad("apart(greatest, 0, 1, 1, 2)", x -> x.apart(GREATEST, 0, 1, 1, 2));
        Cases.refused(() -> Check.with(2, 0), "apart(0, 0, 1, 1, 2) of no books", x -> x.apart(0, 0, 1, 1, 2), BAD);
    }

    private static void p07_noSuchThingIsBad() {
        bad("apart(0, -1, 1, 1, 2)", x -> x.apart(0, -1, 1, 1, 2));
        bad("apart(0, 3, 1, 1, 2)", x -> x.apart(0, 3, 1, 1, 2));
        bad("apart(0, least, 1, 1, 2)", x -> x.apart(0, LEAST, 1, 1, 2));
        bad("apart(0, greatest, 1, 1, 2)", x -> x.apart(0, GREATEST, 1, 1, 2));
    }

    private static void p07_noSuchOtherThingIsBad() {
        bad("apart(0, 1, NONE, 1, 2)", x -> x.apart(0, 1, NONE, 1, 2));
        bad("apart(0, 1, 3, 1, 2)", x -> x.apart(0, 1, 3, 1, 2));
        bad("apart(0, 1, least, 1, 2)", x -> x.apart(0, 1, LEAST, 1, 2));
        bad("apart(0, 1, greatest, 1, 2)", x -> x.apart(0, 1, GREATEST, 1, 2));
        Cases.refused(() -> Check.with(1, 1), "apart(0, 0, 1, 1, 2) of one thing", x -> x.apart(0, 0, 1, 1, 2), BAD);
    }

    private static void p07_theLastBookAndThingsAreTaken() {
        WhenItWas x = Check.with(12, 6);
        due("apart(5, 11, 10, 1, 2)", x.apart(5, 11, 10, 1, 2), 0);
        due("apart(5, 0, 11, 1, 2)", x.apart(5, 0, 11, 1, 2), 1);
        due("about(1, 2)", x.about(1, 2), 11);
    }

    private static void p07_theFortiethRowIs39() {
        due("apart(0, 0, 1, 1, 2)", withRows(39).apart(0, 0, 1, 1, 2), 39);
    }

    private static void p07_aFortyFirstRowIsFull() {
        Cases.refused(Scenes::packed, "apart(0, 0, 1, 1, 2)", x -> x.apart(0, 0, 1, 1, 2), FULL);
    }

    private static void p07_badComesAheadOfFull() {
        Cases.refused(Scenes::packed, "apart(0, 0, 0, 1, 2)", x -> x.apart(0, 0, 0, 1, 2), BAD);
        Cases.refused(Scenes::packed, "apart(0, 0, 1, 2, 1)", x -> x.apart(0, 0, 1, 2, 1), BAD);
        Cases.refused(Scenes::packed, "apart(0, 0, 1, 0, 100001)", x -> x.apart(0, 0, 1, 0, 100001), BAD);
    }

    private static void p07_above0ItIsBehindTheOtherOne() {
        WhenItWas x = Check.with(2, 1);
        x.on(0, 1, 10, 10);
        x.apart(0, 0, 1, 1, 1);
        due("span(0, 0)", x.span(0, 0), 11);
    }

    private static void p07_below0ItIsAheadOfTheOtherOne() {
        WhenItWas x = Check.with(2, 1);
        x.on(0, 1, 10, 10);
        x.apart(0, 0, 1, -1, -1);
        due("span(0, 0)", x.span(0, 0), 9);
    }

    private static void p07_theClockDoesNotMatter() {
        WhenItWas x = Check.with(2, 1);
        x.book(1000, 1000);
        x.on(0, 1, 10, 10);
        x.apart(1, 0, 1, 2, 2);
        due("span(0, 0)", x.span(0, 0), 12);
        due("span(0, 1)", x.span(0, 1), 12);
    }

    private static void p07_toldOnTheDayNotAsOfADay() {
        WhenItWas x = Scenes.busy();
        due("apart(0, 0, 1, 1, 2)", x.apart(0, 0, 1, 1, 2), 4);
        due("about(4, 5)", x.about(4, 5), 7);
        due("about(4, 7)", x.about(4, 7), 0);
    }

    // ---- promise 8: read

    private static void p08_noSuchSheetIsBad() {
        bad("read(-1)", x -> x.read(-1));
        bad("read(4)", x -> x.read(4));
        bad("read(least)", x -> x.read(LEAST));
        bad("read(greatest)", x -> x.read(GREATEST));
    }

    private static void p08_aLostSheetIsNull() {
        Cases.finds(Scenes::busy, "read(3)", x -> x.read(3), 1);
        for (int s = 0; s < 4; s++) {
            int lost = s;
            Cases.finds(WhenItWas::new, "read(" + s + ") of a new object", x -> x.read(lost), 1);
        }
    }

    private static void readsOf(int items, int whole) {
        WhenItWas x = Check.with(2, 1);
        x.sheet(3, 0, items);
        for (int r = 0; 5 * r + 2 < items; r++) x.put(3, 0, 5 * r + 2, NONE);
        due("read(3) of " + items + " items", x.read(3), whole);
        due("rows then", x.count(3), whole);
        due("finding then", x.count(8), 0);
    }

    private static void p08_ofNoItemsNoRows() {
        readsOf(0, 0);
    }

    private static void p08_fourItemsAreNotWhole() {
        readsOf(4, 0);
    }

    private static void p08_fiveItemsAreARow() {
        readsOf(5, 1);
    }

    private static void p08_nineItemsAreARowAndARest() {
        readsOf(9, 1);
    }

    private static void p08_tenItemsAreTwoRows() {
        readsOf(10, 2);
    }

    private static void p08_thirtyNineItemsAreSevenRowsAndARest() {
        readsOf(39, 7);
    }

    private static void p08_fortyItemsAreEightRows() {
        readsOf(40, 8);
    }

    private static void stopsAt(String why, int... middle) {
        WhenItWas x = Check.with(2, 1);
        Check.fill(x, 0, 2, 0, 0, NONE, 1, 1, middle[0], middle[1], middle[2], middle[3], middle[4], 0, 1, NONE, 1, 1);
        due("read(0): " + why, x.read(0), 1);
        due("read(0): " + why + ": rows then", x.count(3), 1);
        due("read(0): " + why + ": finding then", x.count(8), 0);
    }

    private static void goesOnWith(String what, int... middle) {
        WhenItWas x = Check.with(2, 1);
        Check.fill(x, 0, 2, 0, 0, NONE, 1, 1, middle[0], middle[1], middle[2], middle[3], middle[4], 0, 1, NONE, 1, 1);
        due("read(0): " + what, x.read(0), 3);
        for (int k = 0; k < 5; k++) due("read(0): " + what + ": about(1, " + k + ")", x.about(1, k), middle[k]);
    }

    private static void p08_stopsAtNoSuchBook() {
        stopsAt("book 1 of one", 1, 0, NONE, 1, 1);
        stopsAt("book -1", -1, 0, NONE, 1, 1);
        stopsAt("book least", LEAST, 0, NONE, 1, 1);
    }

    private static void p08_stopsAtNoSuchThing() {
        stopsAt("thing 2 of two", 0, 2, NONE, 1, 1);
        stopsAt("thing -1", 0, -1, NONE, 1, 1);
        stopsAt("thing greatest", 0, GREATEST, NONE, 1, 1);
    }

    private static void p08_stopsAtNoSuchOtherThing() {
        stopsAt("other -2", 0, 0, -2, 1, 1);
        stopsAt("other 2 of two", 0, 0, 2, 1, 1);
        stopsAt("other least", 0, 0, LEAST, 1, 1);
    }

    private static void p08_stopsAtTheSameThing() {
        stopsAt("other 0 of thing 0", 0, 0, 0, 1, 1);
        stopsAt("other 1 of thing 1", 0, 1, 1, 0, 0);
    }

    private static void p08_stopsAtAnXAboveY() {
        stopsAt("ON, x above y", 0, 0, NONE, 2, 1);
        stopsAt("APART, x above y", 0, 0, 1, 2, 1);
    }

    private static void p08_daysOfARowOnGoTo200000() {
        goesOnWith("ON, all days", 0, 1, NONE, -200000, 200000);
        stopsAt("ON, x below all days", 0, 1, NONE, -200001, 0);
        stopsAt("ON, y above all days", 0, 1, NONE, 0, 200001);
    }

    private static void p08_daysOfARowApartGoTo100000() {
        goesOnWith("APART, farthest", 0, 1, 0, -100000, 100000);
        stopsAt("APART, x too low", 0, 1, 0, -100001, 0);
        stopsAt("APART, y too high", 0, 1, 0, 0, 100001);
    }

    private static void p08_noneAsOtherThingIsARowOn() {
        goesOnWith("ON", 0, 1, NONE, 3, 4);
    }

    private static void p08_aFirstRowThatMayNotBeTellsNothing() {
        Cases.changesNothing(Scenes::busy, "read(0), of which no row may be", x -> x.read(0));
        due("read(0)", Scenes.busy().read(0), 0);
    }

    private static void p08_stopsWhenThereAre40Rows() {
        WhenItWas x = withRows(38);
        Check.fill(x, 0, 0, 0, 0, NONE, 1, 1, 0, 0, NONE, 2, 2, 0, 0, NONE, 3, 3);
        due("read(0) with 38 rows", x.read(0), 2);
        due("count(3)", x.count(3), 40);
        due("about(39, 3)", x.about(39, 3), 2);
    }

    private static void p08_with40RowsItReadsNone() {
        Cases.changesNothing(Scenes::packed, "read(0) with 40 rows", x -> x.read(0));
        due("read(0) with 40 rows", Scenes.packed().read(0), 0);
    }

    private static void p08_bytesAndShortsAreReadAsTheyAre() {
        WhenItWas x = Check.with(1, 1);
        Check.fill(x, 0, 0, 0, 0, 255, 128, 127);
        due("read(0) of bytes", x.read(0), 1);
        due("about(0, 2)", x.about(0, 2), NONE);
        due("about(0, 3)", x.about(0, 3), -128);
        due("about(0, 4)", x.about(0, 4), 127);
        Check.fill(x, 1, 1, 0, 0, 65535, 32768, 32767);
        due("read(1) of shorts", x.read(1), 1);
        due("about(1, 2)", x.about(1, 2), NONE);
        due("about(1, 3)", x.about(1, 3), -32768);
        due("about(1, 4)", x.about(1, 4), 32767);
    }

    private static void p08_toldOnTheDayNotAsOfADay() {
        WhenItWas x = Scenes.busy();
        Check.fill(x, 3, 0, 0, 0, NONE, 1, 1);
        due("read(3)", x.read(3), 1);
        due("about(4, 5)", x.about(4, 5), 7);
    }

    private static void p08_theSheetStaysAsItIs() {
        WhenItWas x = Check.with(1, 1);
        Check.fill(x, 3, 2, 0, 0, NONE, 6, 7);
        due("read(3)", x.read(3), 1);
        due("get(3, 2, 3)", x.get(3, 2, 3), 6);
        due("read(3) again", x.read(3), 1);
        due("lose(3)", x.lose(3), 5);
    }

    // ---- promise 9: takeBack

    private static void p09_noSuchRowIsBad() {
        bad("takeBack(-1)", x -> x.takeBack(-1));
        bad("takeBack(4) of four", x -> x.takeBack(4));
        bad("takeBack(least)", x -> x.takeBack(LEAST));
        bad("takeBack(greatest)", x -> x.takeBack(GREATEST));
        Cases.refused(WhenItWas::new, "takeBack(0) of none", x -> x.takeBack(0), BAD);
        Cases.refused(Scenes::packed, "takeBack(40) of forty", x -> x.takeBack(40), BAD);
    }

    private static void p09_theFirstAndTheLastRowAreTaken() {
        WhenItWas x = Scenes.packed();
        due("takeBack(0)", x.takeBack(0), 1);
        due("takeBack(39)", x.takeBack(39), 1);
        due("about(0, 6)", x.about(0, 6), 399);
        due("about(39, 6)", x.about(39, 6), 399);
        due("count(4)", x.count(4), 38);
    }

    private static void p09_oneTakenBackAlreadyIsNot() {
        Cases.refused(Scenes::busy, "takeBack(1)", x -> x.takeBack(1), NOT);
    }

    private static void p09_onALaterDayItIsStillNot() {
        Cases.refused(() -> {
            WhenItWas x = Scenes.busy();
            x.pass(50);
            return x;
        }, "takeBack(1) later", x -> x.takeBack(1), NOT);
    }

    private static void p09_oneNotKnownAsOfADayIsTakenBack() {
        WhenItWas x = Scenes.busy();
        x.asOf(0);
        due("about(3, 7)", x.about(3, 7), 0);
        due("takeBack(3)", x.takeBack(3), 1);
        due("about(3, 6)", x.about(3, 6), 7);
    }

    private static void p09_takenBackOnDay0() {
        WhenItWas x = Check.with(1, 1);
        x.on(0, 0, 1, 1);
        due("takeBack(0)", x.takeBack(0), 1);
        due("about(0, 6)", x.about(0, 6), 0);
        due("about(0, 7)", x.about(0, 7), 0);
        due("takeBack(0) again", x.takeBack(0), NOT);
    }

    // ---- promise 10: about

    private static void noRow(String call, Cases.Act act) {
        Cases.refused(Scenes::busy, call, act, -300000);
    }

    private static void p10_noSuchRowIsBad() {
        noRow("about(-1, 0)", x -> x.about(-1, 0));
        noRow("about(4, 0) of four", x -> x.about(4, 0));
        noRow("about(least, 0)", x -> x.about(LEAST, 0));
        noRow("about(greatest, 0)", x -> x.about(GREATEST, 0));
        Cases.refused(WhenItWas::new, "about(0, 0) of none", x -> x.about(0, 0), -300000);
        Cases.refused(Scenes::packed, "about(40, 0) of forty", x -> x.about(40, 0), -300000);
    }

    private static void p10_noSuchWhatIsBad() {
        noRow("about(0, -1)", x -> x.about(0, -1));
        noRow("about(0, 8)", x -> x.about(0, 8));
        noRow("about(0, least)", x -> x.about(0, LEAST));
        noRow("about(0, greatest)", x -> x.about(0, GREATEST));
    }

    private static void p10_theFirstAndTheLastWhat() {
        WhenItWas x = Scenes.busy();
        due("about(3, 0)", x.about(3, 0), 1);
        due("about(3, 7)", x.about(3, 7), 1);
    }

    private static void p10_theLastRow() {
        WhenItWas x = Scenes.packed();
        due("about(39, 0)", x.about(39, 0), 3);
        due("about(39, 1)", x.about(39, 1), 3);
        due("about(39, 2)", x.about(39, 2), 4);
        due("about(39, 5)", x.about(39, 5), 300);
    }

    private static void p10_ofARowOnTheOtherThingIsNone() {
        due("about(0, 2)", Scenes.busy().about(0, 2), NONE);
        due("about(2, 2)", Scenes.busy().about(2, 2), 0);
    }

    private static void p10_oneNotTakenBackHasNoDayForIt() {
        due("about(0, 6)", Scenes.busy().about(0, 6), NONE);
        due("about(1, 6)", Scenes.busy().about(1, 6), 7);
    }

    private static int knownAsOf(int row, int day) {
        WhenItWas x = Scenes.busy();
        x.asOf(day);
        return x.about(row, 7);
    }

    private static void p10_knownFromTheDayOnWhichItWasTold() {
        due("told on 3, as of 2", knownAsOf(2, 2), 0);
        due("told on 3, as of 3", knownAsOf(2, 3), 1);
        due("told on 0, as of 0", knownAsOf(0, 0), 1);
    }

    private static void p10_notKnownFromTheDayOnWhichItWasTakenBack() {
        due("taken back on 7, as of 6", knownAsOf(1, 6), 1);
        due("taken back on 7, as of 7", knownAsOf(1, 7), 0);
        due("taken back on 7, as of none", knownAsOf(1, NONE), 0);
    }

    private static void p10_toldAndTakenBackOnOneDayItWasNeverKnown() {
        WhenItWas x = Check.with(1, 1);
        x.pass(1);
        x.on(0, 0, 1, 1);
        x.takeBack(0);
        x.pass(1);
        for (int day = 0; day <= 2; day++) {
            x.asOf(day);
            due("about(0, 7) as of " + day, x.about(0, 7), 0);
        }
    }

    // ---- promise 11: asOf

    private static void p11_theDayItselfIsTaken() {
        WhenItWas x = Scenes.busy();
        due("asOf(7) on day 7", x.asOf(7), 5);
        due("asOf(NONE)", x.asOf(NONE), 7);
    }

    private static void p11_aDayBehindTheDayIsBad() {
        bad("asOf(8) on day 7", x -> x.asOf(8));
        bad("asOf(399)", x -> x.asOf(399));
        bad("asOf(greatest)", x -> x.asOf(GREATEST));
        Cases.refused(WhenItWas::new, "asOf(1) on day 0", x -> x.asOf(1), BAD);
        Cases.refused(Scenes::packed, "asOf(400) on day 399", x -> x.asOf(400), BAD);
    }

    private static void p11_day0IsTaken() {
        WhenItWas x = Scenes.busy();
        due("asOf(0)", x.asOf(0), 5);
        due("asOf(0) again", x.asOf(0), 0);
        due("count(4)", x.count(4), 2);
    }

    private static void p11_noneIsTheDay() {
        WhenItWas x = Scenes.busy();
        due("asOf(NONE)", x.asOf(NONE), 5);
        due("count(4)", x.count(4), 3);
        x.pass(1);
        x.on(0, 0, 100, 100);
        due("count(4) a day later", x.count(4), 4);
        due("asOf(NONE) again", x.asOf(NONE), NONE);
    }

    private static void p11_belowNoneIsBad() {
        bad("asOf(-2)", x -> x.asOf(-2));
        bad("asOf(least)", x -> x.asOf(LEAST));
    }

    private static void p11_theLastDayOfAllIsTaken() {
        WhenItWas x = Scenes.packed();
        due("asOf(399)", x.asOf(399), NONE);
        due("count(4)", x.count(4), 40);
        due("asOf(299)", x.asOf(299), 399);
        due("count(4)", x.count(4), 20);
    }

    private static void p11_aDayStaysWhenDaysPass() {
        WhenItWas x = Check.with(1, 1);
        x.asOf(0);
        x.pass(1);
        x.on(0, 0, 1, 1);
        due("count(4)", x.count(4), 0);
        due("asOf(1)", x.asOf(1), 0);
        due("count(4)", x.count(4), 1);
    }
}
