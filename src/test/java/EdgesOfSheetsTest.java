/** Boundary cases of the promises 36 to 43, one by one: sheets, findings, counts, the digest. */
public final class EdgesOfSheetsTest {
    private static final int NONE = WhenItWas.NONE, BAD = WhenItWas.BAD, NOT = WhenItWas.NOT;
    private static final int LEAST = Integer.MIN_VALUE, GREATEST = Integer.MAX_VALUE;
    private static final int NULL = 1, INDEX = 2, CAST = 3, STORE = 4, SIZE = 5;

    public static void main(String[] args) throws IllegalAccessException {
        Cases.run(EdgesOfSheetsTest.class, 36, 43);
    }

    private static void due(String call, long got, long want) {
        Cases.due(call, got, want);
    }

    private static void bad(String call, Cases.Act act) {
        Cases.bad(call, act);
    }

    private static void finds(String call, Cases.Act act, int number) {
        Cases.finds(Scenes::busy, call, act, number);
    }

    private static void holds(WhenItWas x, int s, int type, int... items) {
        for (int i = 0; i < items.length; i++) due("get(" + s + ", " + type + ", " + i + ")", x.get(s, type, i), items[i]);
    }

    // ---- promise 36: sheet

    private static void p36_noSuchSheetIsBad() {
        bad("sheet(-1, 0, 1)", x -> x.sheet(-1, 0, 1));
        bad("sheet(4, 0, 1)", x -> x.sheet(4, 0, 1));
        bad("sheet(least, 0, 1)", x -> x.sheet(LEAST, 0, 1));
        bad("sheet(greatest, 0, 1)", x -> x.sheet(GREATEST, 0, 1));
    }

    private static void p36_theFirstAndTheLastSheet() {
        WhenItWas x = new WhenItWas();
        due("sheet(0, 0, 1)", x.sheet(0, 0, 1), 1);
        due("sheet(3, 2, 2)", x.sheet(3, 2, 2), 2);
        due("lose(0)", x.lose(0), 1);
        due("lose(3)", x.lose(3), 2);
    }

    private static void p36_noSuchTypeIsBad() {
        bad("sheet(0, -1, 1)", x -> x.sheet(0, -1, 1));
        bad("sheet(0, 3, 1)", x -> x.sheet(0, 3, 1));
        bad("sheet(3, least, 1)", x -> x.sheet(3, LEAST, 1));
        bad("sheet(3, greatest, 1)", x -> x.sheet(3, GREATEST, 1));
    }

    private static void p36_thereMayBe40Items() {
        for (int type = 0; type < 3; type++) {
            WhenItWas x = new WhenItWas();
            due("sheet(0, " + type + ", 40)", x.sheet(0, type, 40), 40);
            due("put() of the 40th", x.put(0, type, 39, 7), 1);
            due("get() of the 40th", x.get(0, type, 39), 7);
            due("lose(0)", x.lose(0), 40);
        }
    }

    private static void p36_above40IsBad() {
        bad("sheet(0, 0, 41)", x -> x.sheet(0, 0, 41));
        bad("sheet(3, 0, greatest)", x -> x.sheet(3, 0, GREATEST));
    }

    private static void p36_thereMayBeNoItems() {
        WhenItWas x = new WhenItWas();
        due("sheet(0, 1, 0)", x.sheet(0, 1, 0), 0);
        due("count(8)", x.count(8), 0);
        due("lose(0)", x.lose(0), 0);
    }

    private static void p36_below0IsSize() {
        finds("sheet(0, 0, -1)", x -> x.sheet(0, 0, -1), SIZE);
        finds("sheet(3, 2, least)", x -> x.sheet(3, 2, LEAST), SIZE);
        Cases.finds(WhenItWas::new, "sheet(0, 0, -1) of a new object", x -> x.sheet(0, 0, -1), SIZE);
    }

    private static void p36_badComesAheadOfSize() {
        bad("sheet(4, 0, -1)", x -> x.sheet(4, 0, -1));
        bad("sheet(0, 3, -1)", x -> x.sheet(0, 3, -1));
    }

    private static void p36_itemsAre0AtFirst() {
        for (int type = 0; type < 3; type++) {
            WhenItWas x = new WhenItWas();
            x.sheet(1, type, 40);
            for (int i = 0; i < 40; i++) due("get(1, " + type + ", " + i + ")", x.get(1, type, i), 0);
        }
    }

    private static void p36_itemsAre0WhenMadeAnew() {
        WhenItWas x = new WhenItWas();
        x.sheet(1, 2, 40);
        for (int i = 0; i < 40; i++) x.put(1, 2, i, i + 1);
        due("sheet(1, 2, 3)", x.sheet(1, 2, 3), 3);
        due("sheet(1, 2, 40)", x.sheet(1, 2, 40), 40);
        for (int i = 0; i < 40; i++) due("get(1, 2, " + i + ")", x.get(1, 2, i), 0);
    }

    private static void p36_otherSheetsStayAsTheyAre() {
        WhenItWas x = new WhenItWas();
        for (int s = 0; s < 4; s++) {
            x.sheet(s, 2, 40);
            x.put(s, 2, 0, s + 10);
            x.put(s, 2, 39, s + 20);
        }
        x.sheet(1, 0, 40);
        x.sheet(2, 0, 40);
        due("get(0, 2, 0)", x.get(0, 2, 0), 10);
        due("get(0, 2, 39)", x.get(0, 2, 39), 20);
        due("get(3, 2, 0)", x.get(3, 2, 0), 13);
        due("get(3, 2, 39)", x.get(3, 2, 39), 23);
    }

    // ---- promise 37: lose

    private static void p37_noSuchSheetIsBad() {
        bad("lose(-1)", x -> x.lose(-1));
        bad("lose(4)", x -> x.lose(4));
        bad("lose(least)", x -> x.lose(LEAST));
        bad("lose(greatest)", x -> x.lose(GREATEST));
    }

    private static void p37_aLostSheetIsNull() {
        finds("lose(3)", x -> x.lose(3), NULL);
        WhenItWas y = Scenes.busy();
        due("lose(0)", y.lose(0), 7);
        due("lose(0) again", y.lose(0), -11);
        due("count(8)", y.count(8), NULL);
    }

    private static void p37_ofNoItems() {
        WhenItWas x = new WhenItWas();
        x.sheet(2, 0, 0);
        due("lose(2)", x.lose(2), 0);
        due("lose(2) again", x.lose(2), -11);
    }

    private static void p37_of40Items() {
        WhenItWas x = new WhenItWas();
        x.sheet(2, 0, 40);
        due("lose(2)", x.lose(2), 40);
    }

    private static void p37_othersAreNotLost() {
        WhenItWas x = Scenes.busy();
        x.lose(1);
        due("lose(0)", x.lose(0), 7);
        due("lose(2)", x.lose(2), 4);
        due("count(8) stays", x.count(8), SIZE);
    }

    // ---- promise 38: put

    private static void p38_noSuchSheetIsBad() {
        bad("put(-1, 0, 0, 9)", x -> x.put(-1, 0, 0, 9));
        bad("put(4, 0, 0, 9)", x -> x.put(4, 0, 0, 9));
        bad("put(least, 0, 0, 9)", x -> x.put(LEAST, 0, 0, 9));
        bad("put(greatest, 0, 0, 9)", x -> x.put(GREATEST, 0, 0, 9));
    }

    private static void p38_noSuchTypeIsBad() {
        bad("put(0, -1, 0, 9)", x -> x.put(0, -1, 0, 9));
        bad("put(0, 3, 0, 9)", x -> x.put(0, 3, 0, 9));
        bad("put(0, least, 0, 9)", x -> x.put(0, LEAST, 0, 9));
        bad("put(0, greatest, 0, 9)", x -> x.put(0, GREATEST, 0, 9));
    }

    private static void p38_badComesAheadOfFindings() {
        bad("put(3, 3, 0, 9), lost", x -> x.put(3, 3, 0, 9));
        bad("put(3, -1, 0, 9), lost, a type that is none", x -> x.put(3, -1, 0, 9));
        bad("put(0, 3, 7, 9), no such item", x -> x.put(0, 3, 7, 9));
    }

    private static void p38_aLostSheetIsNull() {
        for (int type = 0; type < 3; type++) {
            int asked = type;
            finds("put(3, " + type + ", 0, 9)", x -> x.put(3, asked, 0, 9), NULL);
        }
        finds("put(3, 0, -1, 9), ahead of INDEX", x -> x.put(3, 0, -1, 9), NULL);
    }

    private static void p38_anotherTypeIsCast() {
        for (int s = 0; s < 3; s++) {
            for (int type = 0; type < 3; type++) {
                int sheet = s;
                int asked = type;
                if (s != type) finds("put(" + s + ", " + type + ", 0, 9)", x -> x.put(sheet, asked, 0, 9), CAST);
            }
        }
    }

    private static void p38_castComesAheadOfIndex() {
        finds("put(0, 1, 7, 9)", x -> x.put(0, 1, 7, 9), CAST);
        finds("put(0, 2, -1, 9)", x -> x.put(0, 2, -1, 9), CAST);
    }

    private static void p38_noSuchItemIsIndex() {
        finds("put(0, 0, -1, 9)", x -> x.put(0, 0, -1, 9), INDEX);
        finds("put(0, 0, 7, 9) of seven", x -> x.put(0, 0, 7, 9), INDEX);
        finds("put(1, 1, 2, 9) of two", x -> x.put(1, 1, 2, 9), INDEX);
        finds("put(2, 2, 4, 9) of four", x -> x.put(2, 2, 4, 9), INDEX);
        finds("put(2, 2, least, 9)", x -> x.put(2, 2, LEAST, 9), INDEX);
        finds("put(2, 2, greatest, 9)", x -> x.put(2, 2, GREATEST, 9), INDEX);
    }

    private static void p38_noItemOfNone() {
        Cases.finds(() -> {
            WhenItWas x = new WhenItWas();
            x.sheet(0, 0, 0);
            return x;
        }, "put(0, 0, 0, 9)", x -> x.put(0, 0, 0, 9), INDEX);
    }

    private static void p38_noItemBehind40() {
        Cases.finds(() -> {
            WhenItWas x = new WhenItWas();
            x.sheet(0, 0, 40);
            x.sheet(1, 0, 40);
            return x;
        }, "put(0, 0, 40, 9)", x -> x.put(0, 0, 40, 9), INDEX);
    }

    private static void p38_theFirstAndTheLastItem() {
        WhenItWas x = Scenes.busy();
        due("put(0, 0, 0, 70)", x.put(0, 0, 0, 70), 1);
        due("put(0, 0, 6, 71)", x.put(0, 0, 6, 71), 1);
        holds(x, 0, 0, 70, 2, 3, 4, 5, 6, 71);
        due("count(8) stays", x.count(8), SIZE);
    }

    private static void becomes(int type, int v, int item) {
        WhenItWas x = new WhenItWas();
        x.sheet(0, type, 1);
        due("put(0, " + type + ", 0, " + v + ")", x.put(0, type, 0, v), 1);
        due("get() of " + v, x.get(0, type, 0), item);
    }

    private static void p38_aByteIsTheLowest8Bits() {
        becomes(0, 127, 127);
        becomes(0, 128, -128);
        becomes(0, 255, -1);
        becomes(0, 256, 0);
        becomes(0, -128, -128);
        becomes(0, -129, 127);
        becomes(0, GREATEST, -1);
        becomes(0, LEAST, 0);
    }

    private static void p38_aShortIsTheLowest16Bits() {
        becomes(1, 32767, 32767);
        becomes(1, 32768, -32768);
        becomes(1, 65535, -1);
        becomes(1, 65536, 0);
        becomes(1, -32768, -32768);
        becomes(1, -32769, 32767);
        becomes(1, GREATEST, -1);
        becomes(1, LEAST, 0);
    }

    private static void p38_anIntIsAllBits() {
        becomes(2, 65536, 65536);
        becomes(2, GREATEST, GREATEST);
        becomes(2, LEAST, LEAST);
        becomes(2, -1, -1);
    }

    // ---- promise 39: get

    private static void badGet(String call, Cases.Act act) {
        Cases.refused(Scenes::busy, call, act, LEAST);
    }

    private static void findsBy(String call, Cases.Act act, int number) {
        Cases.refusedOrFound(Scenes::busy, call, act, LEAST, number);
    }

    private static void p39_noSuchSheetIsBad() {
        badGet("get(-1, 0, 0)", x -> x.get(-1, 0, 0));
        badGet("get(4, 0, 0)", x -> x.get(4, 0, 0));
        badGet("get(least, 0, 0)", x -> x.get(LEAST, 0, 0));
        badGet("get(greatest, 0, 0)", x -> x.get(GREATEST, 0, 0));
    }

    private static void p39_noSuchTypeIsBad() {
        badGet("get(0, -1, 0)", x -> x.get(0, -1, 0));
        badGet("get(0, 3, 0)", x -> x.get(0, 3, 0));
        badGet("get(3, -1, 0), lost", x -> x.get(3, -1, 0));
        badGet("get(0, least, 0)", x -> x.get(0, LEAST, 0));
        badGet("get(0, greatest, 0)", x -> x.get(0, GREATEST, 0));
    }

    private static void p39_aLostSheetIsNull() {
        findsBy("get(3, 0, 0)", x -> x.get(3, 0, 0), NULL);
        findsBy("get(3, 2, -1), ahead of INDEX", x -> x.get(3, 2, -1), NULL);
    }

    private static void p39_anotherTypeIsCast() {
        for (int s = 0; s < 3; s++) {
            for (int type = 0; type < 3; type++) {
                int sheet = s;
                int asked = type;
                if (s != type) findsBy("get(" + s + ", " + type + ", 0)", x -> x.get(sheet, asked, 0), CAST);
            }
        }
    }

    private static void p39_castComesAheadOfIndex() {
        findsBy("get(0, 1, 7)", x -> x.get(0, 1, 7), CAST);
        findsBy("get(0, 2, -1)", x -> x.get(0, 2, -1), CAST);
    }

    private static void p39_noSuchItemIsIndex() {
        findsBy("get(0, 0, -1)", x -> x.get(0, 0, -1), INDEX);
        findsBy("get(0, 0, 7) of seven", x -> x.get(0, 0, 7), INDEX);
        findsBy("get(1, 1, 2) of two", x -> x.get(1, 1, 2), INDEX);
        findsBy("get(2, 2, least)", x -> x.get(2, 2, LEAST), INDEX);
        findsBy("get(2, 2, greatest)", x -> x.get(2, 2, GREATEST), INDEX);
        Cases.refusedOrFound(() -> {
            WhenItWas x = new WhenItWas();
            x.sheet(0, 0, 40);
            x.sheet(1, 0, 40);
            return x;
        }, "get(0, 0, 40) of forty", x -> x.get(0, 0, 40), LEAST, INDEX);
    }

    private static void p39_theFirstAndTheLastItem() {
        WhenItWas x = Scenes.busy();
        due("get(0, 0, 0)", x.get(0, 0, 0), 1);
        due("get(0, 0, 6)", x.get(0, 0, 6), 7);
        due("get(2, 2, 3)", x.get(2, 2, 3), 8);
        due("count(8) stays", x.count(8), SIZE);
    }

    private static void p39_theLeastIntAsAnItemIsNoFinding() {
        WhenItWas x = new WhenItWas();
        Check.fill(x, 0, 2, LEAST);
        due("get(0, 2, 0)", x.get(0, 2, 0), LEAST);
        due("count(8)", x.count(8), 0);
    }

    // ---- promise 40: copy

    /** Two rows of shorts, 1 to 5 and 6 to 8, a row of bytes; the fourth is lost; a finding 5. */
    private static WhenItWas rowsToCopy() {
        WhenItWas x = new WhenItWas();
        Check.fill(x, 0, 1, 1, 2, 3, 4, 5);
        Check.fill(x, 1, 1, 6, 7, 8);
        Check.fill(x, 2, 0, 9, 10, 11);
        x.sheet(3, 0, -1);
        return x;
    }

    private static void copyFinds(String call, Cases.Act act, int number) {
        Cases.finds(EdgesOfSheetsTest::rowsToCopy, call, act, number);
    }

    private static void p40_noSuchSheetIsBad() {
        bad("copy(-1, 0, 0, 0, 0)", x -> x.copy(-1, 0, 0, 0, 0));
        bad("copy(4, 0, 0, 0, 0)", x -> x.copy(4, 0, 0, 0, 0));
        bad("copy(0, 0, -1, 0, 0)", x -> x.copy(0, 0, -1, 0, 0));
        bad("copy(0, 0, 4, 0, 0)", x -> x.copy(0, 0, 4, 0, 0));
        bad("copy(least, 0, 0, 0, 0)", x -> x.copy(LEAST, 0, 0, 0, 0));
        bad("copy(0, 0, greatest, 0, 0)", x -> x.copy(0, 0, GREATEST, 0, 0));
    }

    private static void p40_badComesAheadOfNull() {
        bad("copy(3, 0, 4, 0, 0)", x -> x.copy(3, 0, 4, 0, 0));
        bad("copy(4, 0, 3, 0, 0)", x -> x.copy(4, 0, 3, 0, 0));
    }

    private static void p40_aLostSheetIsNull() {
        copyFinds("copy(3, 0, 0, 0, 0), from a lost one", x -> x.copy(3, 0, 0, 0, 0), NULL);
        copyFinds("copy(0, 0, 3, 0, 0), to a lost one", x -> x.copy(0, 0, 3, 0, 0), NULL);
        copyFinds("copy(3, 0, 3, 0, 0), both", x -> x.copy(3, 0, 3, 0, 0), NULL);
        copyFinds("copy(0, -1, 3, 0, 0), ahead of INDEX", x -> x.copy(0, -1, 3, 0, 0), NULL);
    }

    private static void p40_unlikeTypesAreStore() {
        copyFinds("copy(0, 0, 2, 0, 1)", x -> x.copy(0, 0, 2, 0, 1), STORE);
        copyFinds("copy(2, 0, 0, 0, 1)", x -> x.copy(2, 0, 0, 0, 1), STORE);
        copyFinds("copy(2, 0, 0, 0, 0), of no items", x -> x.copy(2, 0, 0, 0, 0), STORE);
    }

    private static void p40_storeComesAheadOfIndex() {
        copyFinds("copy(0, -1, 2, 0, 1)", x -> x.copy(0, -1, 2, 0, 1), STORE);
        copyFinds("copy(0, 0, 2, 0, 99)", x -> x.copy(0, 0, 2, 0, 99), STORE);
    }

    private static void p40_below0IsIndex() {
        copyFinds("copy(0, -1, 1, 0, 1)", x -> x.copy(0, -1, 1, 0, 1), INDEX);
        copyFinds("copy(0, 0, 1, -1, 1)", x -> x.copy(0, 0, 1, -1, 1), INDEX);
        copyFinds("copy(0, 0, 1, 0, -1)", x -> x.copy(0, 0, 1, 0, -1), INDEX);
        copyFinds("copy(0, -1, 1, 0, 0), of no items", x -> x.copy(0, -1, 1, 0, 0), INDEX);
        copyFinds("copy(0, 0, 1, -1, 0), of no items", x -> x.copy(0, 0, 1, -1, 0), INDEX);
        copyFinds("copy(0, least, 1, 0, 1)", x -> x.copy(0, LEAST, 1, 0, 1), INDEX);
        copyFinds("copy(0, 0, 1, least, 1)", x -> x.copy(0, 0, 1, LEAST, 1), INDEX);
        copyFinds("copy(0, 0, 1, 0, least)", x -> x.copy(0, 0, 1, 0, LEAST), INDEX);
    }

    private static void p40_notSoManyInTheFirstIsIndex() {
        copyFinds("copy(1, 1, 0, 0, 3) of three", x -> x.copy(1, 1, 0, 0, 3), INDEX);
        copyFinds("copy(1, 0, 0, 0, 4) of three", x -> x.copy(1, 0, 0, 0, 4), INDEX);
        copyFinds("copy(1, 3, 0, 0, 1) of three", x -> x.copy(1, 3, 0, 0, 1), INDEX);
        copyFinds("copy(1, 4, 0, 0, 0) of three", x -> x.copy(1, 4, 0, 0, 0), INDEX);
    }

    private static void p40_notSoManyInTheSecondIsIndex() {
        copyFinds("copy(0, 0, 1, 1, 3) of three", x -> x.copy(0, 0, 1, 1, 3), INDEX);
        copyFinds("copy(0, 0, 1, 0, 4) of three", x -> x.copy(0, 0, 1, 0, 4), INDEX);
        copyFinds("copy(0, 0, 1, 3, 1) of three", x -> x.copy(0, 0, 1, 3, 1), INDEX);
        copyFinds("copy(0, 0, 1, 4, 0) of three", x -> x.copy(0, 0, 1, 4, 0), INDEX);
    }

    private static void p40_sumsThatWrapAroundAreIndex() {
        copyFinds("copy(0, 1, 1, 0, greatest)", x -> x.copy(0, 1, 1, 0, GREATEST), INDEX);
        copyFinds("copy(0, greatest, 1, 0, 1)", x -> x.copy(0, GREATEST, 1, 0, 1), INDEX);
        copyFinds("copy(0, 0, 1, greatest, 1)", x -> x.copy(0, 0, 1, GREATEST, 1), INDEX);
        copyFinds("copy(0, greatest, 1, greatest, greatest)", x -> x.copy(0, GREATEST, 1, GREATEST, GREATEST), INDEX);
        copyFinds("copy(0, greatest, 1, 0, least)", x -> x.copy(0, GREATEST, 1, 0, LEAST), INDEX);
    }

    private static void p40_noItemsAreTakenUpToTheEnd() {
        WhenItWas x = rowsToCopy();
        due("copy(0, 5, 1, 3, 0)", x.copy(0, 5, 1, 3, 0), 1);
        due("copy(0, 0, 1, 0, 0)", x.copy(0, 0, 1, 0, 0), 1);
        holds(x, 0, 1, 1, 2, 3, 4, 5);
        holds(x, 1, 1, 6, 7, 8);
        due("count(8) stays", x.count(8), SIZE);
    }

    private static void p40_asManyAsThereAre() {
        WhenItWas x = rowsToCopy();
        due("copy(1, 0, 0, 0, 3)", x.copy(1, 0, 0, 0, 3), 1);
        holds(x, 0, 1, 6, 7, 8, 4, 5);
        due("copy(1, 0, 0, 2, 3)", x.copy(1, 0, 0, 2, 3), 1);
        holds(x, 0, 1, 6, 7, 6, 7, 8);
        holds(x, 1, 1, 6, 7, 8);
    }

    private static void p40_toTheEndOfBoth() {
        WhenItWas x = rowsToCopy();
        due("copy(0, 4, 1, 2, 1)", x.copy(0, 4, 1, 2, 1), 1);
        holds(x, 1, 1, 6, 7, 5);
    }

    private static void p40_ontoItselfAsTheyWere() {
        WhenItWas x = rowsToCopy();
        due("copy(0, 0, 0, 1, 4)", x.copy(0, 0, 0, 1, 4), 1);
        holds(x, 0, 1, 1, 1, 2, 3, 4);
        WhenItWas y = rowsToCopy();
        due("copy(0, 1, 0, 0, 4)", y.copy(0, 1, 0, 0, 4), 1);
        holds(y, 0, 1, 2, 3, 4, 5, 5);
        WhenItWas z = rowsToCopy();
        due("copy(0, 0, 0, 0, 5)", z.copy(0, 0, 0, 0, 5), 1);
        holds(z, 0, 1, 1, 2, 3, 4, 5);
    }

    private static void p40_all40ItemsOfTheLastSheet() {
        WhenItWas x = new WhenItWas();
        x.sheet(2, 2, 40);
        x.sheet(3, 2, 40);
        x.put(3, 2, 0, LEAST);
        x.put(3, 2, 39, GREATEST);
        due("copy(3, 0, 2, 0, 40)", x.copy(3, 0, 2, 0, 40), 1);
        due("get(2, 2, 0)", x.get(2, 2, 0), LEAST);
        due("get(2, 2, 39)", x.get(2, 2, 39), GREATEST);
        due("copy(3, 0, 2, 0, 41)", x.copy(3, 0, 2, 0, 41), -12);
    }

    private static void p40_noItemsOfNone() {
        WhenItWas x = new WhenItWas();
        x.sheet(0, 0, 0);
        due("copy(0, 0, 0, 0, 0)", x.copy(0, 0, 0, 0, 0), 1);
        due("copy(0, 0, 0, 0, 1)", x.copy(0, 0, 0, 0, 1), -12);
    }

    // ---- promise 41: write

    private static void p41_noSuchSheetIsBad() {
        bad("write(-1)", x -> x.write(-1));
        bad("write(4)", x -> x.write(4));
        bad("write(least)", x -> x.write(LEAST));
        bad("write(greatest)", x -> x.write(GREATEST));
        Cases.refused(Scenes::torn, "write(4), not all can be", x -> x.write(4), BAD);
    }

    private static void p41_aLostSheetIsNull() {
        finds("write(3)", x -> x.write(3), NULL);
        Cases.finds(Scenes::torn, "write(3), ahead of NOT", x -> x.write(3), NULL);
    }

    private static void p41_whereNotAllCanBeItIsNot() {
        Cases.refused(Scenes::torn, "write(0)", x -> x.write(0), NOT);
        Cases.refused(() -> {
            WhenItWas x = Scenes.torn();
            x.sheet(0, 0, 0);
            return x;
        }, "write(0) of no items", x -> x.write(0), NOT);
    }

    private static void p41_ofNoThings() {
        WhenItWas x = new WhenItWas();
        Check.fill(x, 0, 2, 8, 9);
        due("write(0)", x.write(0), 0);
        holds(x, 0, 2, 8, 9);
    }

    private static void p41_ofNoItems() {
        WhenItWas x = Scenes.busy();
        x.sheet(0, 2, 0);
        due("write(0)", x.write(0), 0);
        due("count(8) stays", x.count(8), SIZE);
    }

    /** A thing on 3 to 4, one on 5 to 6. */
    private static WhenItWas twoSpans(int items) {
        WhenItWas x = Check.with(2, 1);
        x.on(0, 0, 3, 4);
        x.on(0, 1, 5, 6);
        x.sheet(0, 2, items);
        for (int i = 0; i < items; i++) x.put(0, 2, i, 9);
        return x;
    }

    private static void p41_fewerItemsThanEnds() {
        WhenItWas x = twoSpans(1);
        due("write(0) of one item", x.write(0), 1);
        holds(x, 0, 2, 3);
        WhenItWas y = twoSpans(3);
        due("write(0) of three items", y.write(0), 3);
        holds(y, 0, 2, 3, 4, 5);
        due("count(8)", y.count(8), 0);
    }

    private static void p41_asManyItemsAsEnds() {
        WhenItWas x = twoSpans(4);
        due("write(0)", x.write(0), 4);
        holds(x, 0, 2, 3, 4, 5, 6);
    }

    private static void p41_moreItemsThanEnds() {
        WhenItWas x = twoSpans(6);
        due("write(0)", x.write(0), 4);
        holds(x, 0, 2, 3, 4, 5, 6, 9, 9);
    }

    private static void p41_ofTwelveThings() {
        WhenItWas x = Check.with(12, 1);
        x.on(0, 11, 3, 4);
        x.sheet(0, 2, 40);
        due("write(0)", x.write(0), 24);
        due("get(0, 2, 21)", x.get(0, 2, 21), 200000);
        due("get(0, 2, 22)", x.get(0, 2, 22), 3);
        due("get(0, 2, 23)", x.get(0, 2, 23), 4);
        due("get(0, 2, 24)", x.get(0, 2, 24), 0);
    }

    private static void p41_theLowestBitsAlone() {
        WhenItWas x = Check.with(1, 1);
        for (int type = 0; type < 3; type++) x.sheet(type, type, 2);
        for (int s = 0; s < 3; s++) due("write(" + s + ")", x.write(s), 2);
        holds(x, 0, 0, -64, 64);
        holds(x, 1, 1, -3392, 3392);
        holds(x, 2, 2, -200000, 200000);
    }

    private static void p41_asOfADay() {
        WhenItWas x = Check.with(1, 1);
        x.pass(1);
        x.on(0, 0, 3, 4);
        x.sheet(0, 2, 2);
        x.asOf(0);
        due("write(0)", x.write(0), 2);
        holds(x, 0, 2, -200000, 200000);
    }

    // ---- promise 42: count

    private static void p42_noSuchWhatIsBad() {
        bad("count(-1)", x -> x.count(-1));
        bad("count(9)", x -> x.count(9));
        bad("count(least)", x -> x.count(LEAST));
        bad("count(greatest)", x -> x.count(GREATEST));
    }

    private static void p42_nothingYet() {
        WhenItWas x = new WhenItWas();
        for (int what = 0; what <= 8; what++) due("count(" + what + ")", x.count(what), 0);
    }

    private static void p42_asMuchAsCanBe() {
        WhenItWas x = Scenes.packed();
        for (int b = 0; b < 6; b++) x.trust(b, 9);
        while (x.count(7) < 40) x.type('1');
        int[] want = {399, 12, 6, 40, 40, 20, 54, 40, 5};
        for (int what = 0; what <= 8; what++) due("count(" + what + ")", x.count(what), want[what]);
    }

    private static void p42_knownOnesAsOfADay() {
        WhenItWas x = Scenes.busy();
        int[] known = {2, 2, 2, 4, 4, 4, 4, 3};
        int[] on = {2, 2, 2, 3, 3, 3, 3, 2};
        for (int day = 0; day <= 7; day++) {
            x.asOf(day);
            due("count(4) as of " + day, x.count(4), known[day]);
            due("count(5) as of " + day, x.count(5), on[day]);
            due("count(3) as of " + day, x.count(3), 4);
            due("count(0) as of " + day, x.count(0), 7);
        }
    }

    private static void p42_theLatestFinding() {
        WhenItWas x = new WhenItWas();
        x.lose(0);
        due("count(8), NULL", x.count(8), 1);
        x.sheet(0, 0, 1);
        due("count(8), a sheet is made", x.count(8), 1);
        x.put(0, 0, 1, 0);
        due("count(8), INDEX", x.count(8), 2);
        x.put(0, 1, 0, 0);
        due("count(8), CAST", x.count(8), 3);
        x.sheet(1, 1, 1);
        x.copy(0, 0, 1, 0, 1);
        due("count(8), STORE", x.count(8), 4);
        x.sheet(0, 0, -1);
        due("count(8), SIZE", x.count(8), 5);
    }

    private static void p42_refusalsThatAreNoFindingsLeaveIt() {
        WhenItWas x = Scenes.torn();
        due("pass(0)", x.pass(0), BAD);
        due("span(0, 0)", x.span(0, 0), -300001);
        due("takeBack(1)", x.takeBack(1), NOT);
        due("count(9)", x.count(9), BAD);
        due("sheet(4, 0, -1)", x.sheet(4, 0, -1), BAD);
        due("get(4, 0, 0)", x.get(4, 0, 0), LEAST);
        due("count(8)", x.count(8), SIZE);
    }

    // ---- promise 43: digest

    private static long hash(long... parts) {
        long h = 17;
        for (long part : parts) h = 31 * h + part;
        return h;
    }

    private static void p43_ofANewObject() {
        due("digest()", new WhenItWas().digest(), hash(0, 0, 0, 0, 0, 0, 0, 0, 1, 1, 0));
    }

    /** The digest as the document tells it, by the calls that it names. */
    private static long byCalls(WhenItWas x) {
        int things = x.count(1);
        int books = x.count(2);
        int rows = x.count(3);
        long h = 17;
        for (int what = 0; what <= 7; what++) h = 31 * h + x.count(what);
        for (int row = 0; row < rows; row++) {
            for (int what = 0; what <= 7; what++) h = 31 * h + x.about(row, what);
        }
        h = 31 * h + x.all();
        for (int t = 0; t < things; t++) h = 31 * (31 * h + x.span(t, 0)) + x.span(t, 1);
        for (int b = 0; b < books; b++) h = 31 * (31 * h + x.clock(b, 0)) + x.clock(b, 1);
        h = 31 * h + x.orders();
        return 31 * h + x.fault();
    }

    private static void p43_whereAllCanBe() {
        due("digest()", Scenes.busy().digest(), byCalls(Scenes.busy()));
    }

    private static void p43_whereNotAllCanBe() {
        due("digest()", Scenes.torn().digest(), byCalls(Scenes.torn()));
        WhenItWas x = Check.with(1, 1);
        x.on(0, 0, 1, 1);
        x.on(0, 0, 2, 2);
        due("digest()", x.digest(), hash(0, 1, 1, 2, 2, 2, 5, 0, 0, 0, NONE, 1, 1, 0, NONE, 1, 0, 0, NONE, 2, 2, 0, NONE, 1,
                0, -300001, -300001, -300001, -300001, Long.MIN_VALUE + 3, 0));
    }

    private static void p43_ofAsMuchAsCanBe() {
        due("digest()", Scenes.packed().digest(), byCalls(Scenes.packed()));
    }

    private static void p43_aTextOf40Bytes() {
        due("digest()", Scenes.typedFull().digest(), byCalls(Scenes.typedFull()));
    }

    private static void p43_ofNoThingsButBooks() {
        due("digest()", Check.with(0, 6).digest(), hash(0, 0, 6, 0, 0, 0, 30, 0, 1, 0, 0, 0, 0, 0, 0, 0, 0, 0, 0, 0, 0, 1, 0));
    }

    private static void p43_sheetsAndFindingsAreNotInIt() {
        WhenItWas x = Scenes.busy();
        x.lose(0);
        x.lose(0);
        x.put(2, 2, 0, 1);
        due("digest()", x.digest(), Scenes.busy().digest());
    }

    private static void p43_itChangesNothing() {
        Cases.changesNothing(Scenes::busy, "digest()", x -> x.digest());
        Cases.changesNothing(Scenes::torn, "digest()", x -> x.digest());
        Cases.changesNothing(Scenes::packed, "digest()", x -> x.digest());
    }
}
