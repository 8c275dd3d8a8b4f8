/** Boundary cases of the promises 12 to 22, one by one: what can be, spans, what they come from. */
public final class EdgesOfSpansTest {
    private static final int NONE = WhenItWas.NONE, BAD = WhenItWas.BAD, NOT = WhenItWas.NOT;
    private static final int LEAST = Integer.MIN_VALUE, GREATEST = Integer.MAX_VALUE;
    private static final int NO_DAY = -300000, NO_SPAN = -300001, NO_DIFFERENCE = -500000, NO_BETWEEN = -500001;

    public static void main(String[] args) throws IllegalAccessException {
        Cases.run(EdgesOfSpansTest.class, 12, 22);
    }

    private static void due(String call, long got, long want) {
        Cases.due(call, got, want);
    }

    private static void bad(String call, Cases.Act act) {
        Cases.bad(call, act);
    }

    /** Refused with this answer where all rows can be, and where they cannot. */
    private static void badAheadOfNot(String call, Cases.Act act, long answer) {
        Cases.refused(Scenes::busy, call, act, answer);
        Cases.refused(Scenes::torn, call + ", not all can be", act, answer);
    }

    // ---- promise 12: can

    private static void p12_noRowsAtAllCanBe() {
        due("can(0)", new WhenItWas().can(0), 1);
        due("can(0) of torn rows", Scenes.torn().can(0), 1);
    }

    private static void p12_theLastRowIsTaken() {
        due("can(8) of four rows", Scenes.busy().can(8), 1);
        due("can(15) of four rows", Scenes.busy().can(15), 1);
        due("can() of the 40th row", Scenes.packed().can(1L << 39), 1);
        due("can() of forty rows", Scenes.packed().can((1L << 40) - 1), 1);
    }

    private static void p12_aRowThatThereIsNotIsBad() {
        bad("can(16) of four rows", x -> x.can(16));
        bad("can(31) of four rows", x -> x.can(31));
        Cases.refused(WhenItWas::new, "can(1) of no rows", x -> x.can(1), BAD);
        Cases.refused(Scenes::packed, "can() of a 41st row", x -> x.can(1L << 40), BAD);
        Cases.refused(Scenes::packed, "can(-1) of forty rows", x -> x.can(-1), BAD);
    }

    private static void p12_bitsAboveAnIntAreLookedAt() {
        bad("can(2^32)", x -> x.can(1L << 32));
        bad("can(2^32 + 1)", x -> x.can((1L << 32) + 1));
        bad("can(2^63)", x -> x.can(1L << 63));
        bad("can(2^63 + 1)", x -> x.can((1L << 63) + 1));
        bad("can(greatest long)", x -> x.can(Long.MAX_VALUE));
    }

    private static void p12_oneTakenBackIsNot() {
        Cases.refused(Scenes::torn, "can(2)", x -> x.can(2), NOT);
        Cases.refused(Scenes::torn, "can(3)", x -> x.can(3), NOT);
    }

    private static void p12_oneNotYetToldIsNot() {
        Cases.refused(() -> {
            WhenItWas x = Scenes.busy();
            x.asOf(2);
            return x;
        }, "can(4) as of the day before", x -> x.can(4), NOT);
    }

    private static void p12_badComesAheadOfNot() {
        Cases.refused(Scenes::torn, "can(2 + 32) of five rows", x -> x.can(2 + 32), BAD);
    }

    private static void p12_othersThatCannotBeDoNotMatter() {
        WhenItWas x = Scenes.torn();
        due("can(8)", x.can(8), 1);
        due("can(16)", x.can(16), 1);
        due("can(8 + 16)", x.can(8 + 16), 0);
        due("can(1 + 4 + 16)", x.can(1 + 4 + 16), 1);
    }

    private static int canOn(int off, int day) {
        WhenItWas x = Check.with(1, 0);
        x.book(off, off);
        x.on(0, 0, day, day);
        return x.can(1);
    }

    private static void p12_aDayMayBe200000ButNotMore() {
        due("off by -1, on 199999", canOn(-1, 199999), 1);
        due("off by -1, on 200000", canOn(-1, 200000), 0);
    }

    private static void p12_aDayMayBeMinus200000ButNotLess() {
        due("off by 1, on -199999", canOn(1, -199999), 1);
        due("off by 1, on -200000", canOn(1, -200000), 0);
    }

    private static int canBothOn(int first, int second) {
        WhenItWas x = Check.with(1, 1);
        x.book(-4, 6);
        x.on(0, 0, first, first);
        x.on(1, 0, second, second);
        return x.can(3);
    }

    private static void p12_aClockMayBeOffByItsGreatestButNotMore() {
        due("off by 6", canBothOn(10, 16), 1);
        due("off by 7", canBothOn(10, 17), 0);
    }

    private static void p12_aClockMayBeOffByItsLeastButNotLess() {
        due("off by -4", canBothOn(10, 6), 1);
        due("off by -5", canBothOn(10, 5), 0);
    }

    private static void p12_aClockIsOffByTheSameForAllItSays() {
        WhenItWas x = Check.with(2, 1);
        x.book(-9, 9);
        x.on(0, 0, 10, 10);
        x.on(0, 1, 10, 10);
        x.on(1, 0, 19, 19);
        x.on(1, 1, 18, 18);
        due("can(15)", x.can(15), 0);
        due("can(7)", x.can(7), 1);
        due("can(11)", x.can(11), 1);
    }

    // ---- promise 13: all

    private static void p13_nothingToldCanBe() {
        due("all()", new WhenItWas().all(), 1);
    }

    private static void p13_noRowKnownCanBe() {
        WhenItWas x = Scenes.torn();
        due("all()", x.all(), 0);
        x.asOf(5);
        due("all() as of 5", x.all(), 1);
        WhenItWas y = Check.with(1, 1);
        y.pass(1);
        y.on(0, 0, 1, 1);
        y.on(0, 0, 2, 2);
        due("all() of two against one another", y.all(), 0);
        y.asOf(0);
        due("all() of none known", y.all(), 1);
    }

    private static void p13_forty() {
        due("all() of forty rows", Scenes.packed().all(), 1);
    }

    private static WhenItWas chain(int things, int last) {
        WhenItWas x = Check.with(things, 1);
        for (int t = 1; t < things - 1; t++) x.apart(0, t, t - 1, 100000, 100000);
        x.apart(0, things - 1, things - 2, last, last);
        return x;
    }

    private static void p13_thingsMayBe400000DaysApart() {
        due("4 times 100000", chain(5, 100000).all(), 1);
    }

    private static void p13_thingsMayNotBe400001DaysApart() {
        due("4 times 100000 and 1", chain(6, 1).all(), 0);
        due("4 times 100000 and 0", chain(6, 0).all(), 1);
    }

    private static void p13_xToYOfTwoRowsMayMeetInOneDay() {
        WhenItWas x = Check.with(1, 1);
        x.on(0, 0, 1, 5);
        x.on(0, 0, 5, 9);
        due("1 to 5, 5 to 9", x.all(), 1);
        x.on(0, 0, 6, 9);
        due("6 to 9 as well", x.all(), 0);
    }

    private static void p13_aCircleOfTwelveMayComeTo0Alone() {
        for (int last = -1; last <= 1; last++) {
            WhenItWas x = Check.with(12, 1);
            for (int t = 1; t < 12; t++) x.apart(0, t, t - 1, 1, 1);
            x.apart(0, 0, 11, last - 11, last - 11);
            due("a circle of " + last, x.all(), last == 0 ? 1 : 0);
        }
    }

    // ---- promise 14: span

    private static void p14_nothingToldItIsAllDays() {
        WhenItWas x = Check.with(12, 0);
        for (int t = 0; t < 12; t++) {
            due("span(" + t + ", 0)", x.span(t, 0), -200000);
            due("span(" + t + ", 1)", x.span(t, 1), 200000);
        }
    }

    private static void p14_noSuchThingIsBad() {
        badAheadOfNot("span(-1, 0)", x -> x.span(-1, 0), NO_DAY);
        badAheadOfNot("span(3, 0) of three", x -> x.span(3, 0), NO_DAY);
        badAheadOfNot("span(least, 1)", x -> x.span(LEAST, 1), NO_DAY);
        badAheadOfNot("span(greatest, 1)", x -> x.span(GREATEST, 1), NO_DAY);
        Cases.refused(WhenItWas::new, "span(0, 0) of none", x -> x.span(0, 0), NO_DAY);
        Cases.refused(Scenes::packed, "span(12, 0) of twelve", x -> x.span(12, 0), NO_DAY);
    }

    private static void p14_noSuchEndIsBad() {
        badAheadOfNot("span(0, -1)", x -> x.span(0, -1), NO_DAY);
        badAheadOfNot("span(0, 2)", x -> x.span(0, 2), NO_DAY);
        badAheadOfNot("span(0, least)", x -> x.span(0, LEAST), NO_DAY);
        badAheadOfNot("span(0, greatest)", x -> x.span(0, GREATEST), NO_DAY);
    }

    private static void p14_whereNotAllCanBeItIsNot() {
        for (int t = 0; t < 3; t++) {
            int thing = t;
            Cases.refused(Scenes::torn, "span(" + t + ", 0)", x -> x.span(thing, 0), NO_SPAN);
            Cases.refused(Scenes::torn, "span(" + t + ", 1)", x -> x.span(thing, 1), NO_SPAN);
        }
    }

    private static void p14_noDayIsBeyond200000() {
        WhenItWas x = Check.with(1, 0);
        x.book(-1000, 1000);
        x.on(0, 0, 199500, 199700);
        due("span(0, 0)", x.span(0, 0), 198500);
        due("span(0, 1)", x.span(0, 1), 200000);
    }

    private static void p14_noDayIsBeyondMinus200000() {
        WhenItWas x = Check.with(1, 0);
        x.book(-1000, 1000);
        x.on(0, 0, -199700, -199500);
        due("span(0, 0)", x.span(0, 0), -200000);
        due("span(0, 1)", x.span(0, 1), -198500);
    }

    private static void p14_theOtherOnesDaysBoundIt() {
        WhenItWas x = Check.with(2, 1);
        x.apart(0, 1, 0, 100000, 100000);
        due("span(0, 0)", x.span(0, 0), -200000);
        due("span(0, 1)", x.span(0, 1), 100000);
        due("span(1, 0)", x.span(1, 0), -100000);
        due("span(1, 1)", x.span(1, 1), 200000);
    }

    private static void p14_oneDayAlone() {
        WhenItWas x = chain(5, 100000);
        for (int t = 0; t < 5; t++) {
            due("span(" + t + ", 0)", x.span(t, 0), -200000 + 100000 * t);
            due("span(" + t + ", 1)", x.span(t, 1), -200000 + 100000 * t);
        }
    }

    /** A way through all things and clocks, one step for each row. */
    private static WhenItWas longestWay(boolean fromItsEndOn) {
        WhenItWas x = Check.with(12, 1);
        for (int b = 1; b < 6; b++) x.book(-1000, 1000);
        for (int k = 0; k < 17; k++) tellStep(x, fromItsEndOn ? 16 - k : k);
        return x;
    }

    private static void tellStep(WhenItWas x, int step) {
        int book = (step + 1) / 2;
        if (step == 0) {
            x.on(0, 0, 7, 7);
        } else if (step <= 10) {
            x.on(book, step % 2 == 1 ? book - 1 : book, 10 * book, 10 * book);
        } else {
            x.apart(0, step - 5, step - 6, 1, 1);
        }
    }

    private static void p14_byTheLongestWay() {
        for (int end = 0; end < 2; end++) {
            due("span(11, " + end + ")", longestWay(false).span(11, end), 13);
            due("span(11, " + end + "), told from its end on", longestWay(true).span(11, end), 13);
        }
    }

    private static void p14_noneKnownAsOfADay() {
        WhenItWas x = Check.with(1, 1);
        x.pass(1);
        x.on(0, 0, 5, 6);
        x.asOf(0);
        due("span(0, 0) as of 0", x.span(0, 0), -200000);
        x.asOf(1);
        due("span(0, 0) as of 1", x.span(0, 0), 5);
    }

    // ---- promise 15: clock

    private static void p15_nothingToldItIsAsToldOfTheBook() {
        WhenItWas x = new WhenItWas();
        x.book(-1000, 1000);
        x.book(3, 3);
        due("clock(0, 0)", x.clock(0, 0), -1000);
        due("clock(0, 1)", x.clock(0, 1), 1000);
        due("clock(1, 0)", x.clock(1, 0), 3);
        due("clock(1, 1)", x.clock(1, 1), 3);
    }

    private static void p15_noSuchBookIsBad() {
        badAheadOfNot("clock(-1, 0)", x -> x.clock(-1, 0), NO_DAY);
        badAheadOfNot("clock(2, 0) of two", x -> x.clock(2, 0), NO_DAY);
        badAheadOfNot("clock(least, 1)", x -> x.clock(LEAST, 1), NO_DAY);
        badAheadOfNot("clock(greatest, 1)", x -> x.clock(GREATEST, 1), NO_DAY);
        Cases.refused(WhenItWas::new, "clock(0, 0) of none", x -> x.clock(0, 0), NO_DAY);
        Cases.refused(Scenes::packed, "clock(6, 0) of six", x -> x.clock(6, 0), NO_DAY);
    }

    private static void p15_noSuchEndIsBad() {
        badAheadOfNot("clock(0, -1)", x -> x.clock(0, -1), NO_DAY);
        badAheadOfNot("clock(0, 2)", x -> x.clock(0, 2), NO_DAY);
        badAheadOfNot("clock(0, least)", x -> x.clock(0, LEAST), NO_DAY);
        badAheadOfNot("clock(0, greatest)", x -> x.clock(0, GREATEST), NO_DAY);
    }

    private static void p15_whereNotAllCanBeItIsNot() {
        for (int b = 0; b < 2; b++) {
            int book = b;
            Cases.refused(Scenes::torn, "clock(" + b + ", 0)", x -> x.clock(book, 0), NO_SPAN);
            Cases.refused(Scenes::torn, "clock(" + b + ", 1)", x -> x.clock(book, 1), NO_SPAN);
        }
    }

    private static void p15_theLastDaysBoundIt() {
        WhenItWas x = Check.with(1, 0);
        x.book(-1000, 1000);
        x.on(0, 0, 200000, 200000);
        due("clock(0, 0), on 200000", x.clock(0, 0), 0);
        due("clock(0, 1), on 200000", x.clock(0, 1), 1000);
        WhenItWas y = Check.with(1, 0);
        y.book(-1000, 1000);
        y.on(0, 0, -200000, -200000);
        due("clock(0, 0), on -200000", y.clock(0, 0), -1000);
        due("clock(0, 1), on -200000", y.clock(0, 1), 0);
    }

    private static void p15_theLastBook() {
        WhenItWas x = Check.with(1, 5);
        x.book(-7, 8);
        due("clock(5, 0)", x.clock(5, 0), -7);
        due("clock(5, 1)", x.clock(5, 1), 8);
    }

    // ---- promise 16: between

    private static void p16_nothingToldItIsAsFarAsDaysGo() {
        WhenItWas x = Check.with(2, 0);
        due("between(0, 1, 0)", x.between(0, 1, 0), -400000);
        due("between(0, 1, 1)", x.between(0, 1, 1), 400000);
    }

    private static void p16_noSuchThingIsBad() {
        badAheadOfNot("between(-1, 0, 0)", x -> x.between(-1, 0, 0), NO_DIFFERENCE);
        badAheadOfNot("between(3, 0, 0) of three", x -> x.between(3, 0, 0), NO_DIFFERENCE);
        badAheadOfNot("between(0, -1, 0)", x -> x.between(0, -1, 0), NO_DIFFERENCE);
        badAheadOfNot("between(0, 3, 0) of three", x -> x.between(0, 3, 0), NO_DIFFERENCE);
        badAheadOfNot("between(least, 0, 1)", x -> x.between(LEAST, 0, 1), NO_DIFFERENCE);
        badAheadOfNot("between(0, greatest, 1)", x -> x.between(0, GREATEST, 1), NO_DIFFERENCE);
        Cases.refused(Scenes::packed, "between(12, 0, 0) of twelve", x -> x.between(12, 0, 0), NO_DIFFERENCE);
        Cases.refused(Scenes::packed, "between(0, 12, 0) of twelve", x -> x.between(0, 12, 0), NO_DIFFERENCE);
    }

    private static void p16_oneThingTwiceIsBad() {
        badAheadOfNot("between(1, 1, 0)", x -> x.between(1, 1, 0), NO_DIFFERENCE);
        badAheadOfNot("between(1, 1, 1)", x -> x.between(1, 1, 1), NO_DIFFERENCE);
    }

    private static void p16_noSuchEndIsBad() {
        badAheadOfNot("between(0, 1, -1)", x -> x.between(0, 1, -1), NO_DIFFERENCE);
        badAheadOfNot("between(0, 1, 2)", x -> x.between(0, 1, 2), NO_DIFFERENCE);
        badAheadOfNot("between(0, 1, least)", x -> x.between(0, 1, LEAST), NO_DIFFERENCE);
        badAheadOfNot("between(0, 1, greatest)", x -> x.between(0, 1, GREATEST), NO_DIFFERENCE);
    }

    private static void p16_whereNotAllCanBeItIsNot() {
        Cases.refused(Scenes::torn, "between(0, 1, 0)", x -> x.between(0, 1, 0), NO_BETWEEN);
        Cases.refused(Scenes::torn, "between(0, 1, 1)", x -> x.between(0, 1, 1), NO_BETWEEN);
        Cases.refused(Scenes::torn, "between(2, 0, 1)", x -> x.between(2, 0, 1), NO_BETWEEN);
    }

    private static void p16_allDaysAreFromMinus200000To200000() {
        WhenItWas x = Check.with(2, 1);
        x.on(0, 0, 199999, 200000);
        due("between(0, 1, 0)", x.between(0, 1, 0), -1);
        due("between(0, 1, 1)", x.between(0, 1, 1), 400000);
        due("between(1, 0, 0)", x.between(1, 0, 0), -400000);
        due("between(1, 0, 1)", x.between(1, 0, 1), 1);
    }

    private static void p16_asFarAsRowsApartGo() {
        WhenItWas x = Check.with(2, 1);
        x.apart(0, 0, 1, -100000, 100000);
        due("between(0, 1, 0)", x.between(0, 1, 0), -100000);
        due("between(0, 1, 1)", x.between(0, 1, 1), 100000);
        WhenItWas y = chain(5, 100000);
        due("between(4, 0, 0)", y.between(4, 0, 0), 400000);
        due("between(0, 4, 1)", y.between(0, 4, 1), -400000);
    }

    private static void p16_theSameDayIs0() {
        WhenItWas x = Check.with(2, 1);
        x.on(0, 0, 5, 5);
        x.on(0, 1, 5, 5);
        due("between(0, 1, 0)", x.between(0, 1, 0), 0);
        due("between(0, 1, 1)", x.between(0, 1, 1), 0);
    }

    private static void p16_theLastThings() {
        WhenItWas x = Check.with(12, 1);
        x.apart(0, 11, 10, 3, 4);
        due("between(11, 10, 0)", x.between(11, 10, 0), 3);
        due("between(10, 11, 0)", x.between(10, 11, 0), -4);
    }

    // ---- promise 17: led

    private static void p17_anEndOfAllDaysIs0() {
        WhenItWas x = Check.with(1, 1);
        due("led(0, 0)", x.led(0, 0), 0);
        due("led(0, 1)", x.led(0, 1), 0);
    }

    private static void p17_aRowThatTellsNoMoreIs0() {
        WhenItWas x = Check.with(1, 1);
        x.on(0, 0, -200000, 200000);
        due("led(0, 0)", x.led(0, 0), 0);
        due("led(0, 1)", x.led(0, 1), 0);
    }

    private static void p17_oneEndOfAllDaysTheOtherByARow() {
        WhenItWas x = Check.with(1, 1);
        x.on(0, 0, -200000, 199999);
        due("led(0, 0)", x.led(0, 0), 0);
        due("led(0, 1)", x.led(0, 1), 1);
        WhenItWas y = Check.with(1, 1);
        y.on(0, 0, -199999, 200000);
        due("led(0, 0), turned", y.led(0, 0), 1);
        due("led(0, 1), turned", y.led(0, 1), 0);
    }

    private static void p17_byWhatDaysMayBeAtAllOneStep() {
        WhenItWas x = Check.with(2, 1);
        x.apart(0, 1, 0, 5, 5);
        due("led(1, 0)", x.led(1, 0), 1);
        due("led(1, 1)", x.led(1, 1), 0);
        due("led(0, 0)", x.led(0, 0), 0);
        due("led(0, 1)", x.led(0, 1), 1);
    }

    private static void p17_ofTwoWaysTheShorter() {
        WhenItWas x = Check.with(2, 1);
        x.on(0, 0, 10, 20);
        x.apart(0, 1, 0, 5, 5);
        due("led(1, 0) by two", x.led(1, 0), 2);
        x.on(0, 1, 15, 30);
        due("led(1, 0) by one", x.led(1, 0), 1);
        due("led(1, 1) still by two", x.led(1, 1), 2);
    }

    private static void p17_seventeenStepsAtMost() {
        for (int end = 0; end < 2; end++) {
            due("led(11, " + end + ")", longestWay(false).led(11, end), 17);
            due("led(11, " + end + "), told from its end on", longestWay(true).led(11, end), 17);
            due("led(5, " + end + ")", longestWay(false).led(5, end), 11);
            due("led(5, " + end + "), told from its end on", longestWay(true).led(5, end), 11);
        }
    }

    private static void p17_byTheFortiethRow() {
        WhenItWas x = Check.with(2, 1);
        for (int r = 0; r < 38; r++) x.on(0, 0, 5, 9);
        x.apart(0, 1, 0, 1, 1);
        x.on(0, 0, 6, 9);
        due("led(0, 0)", x.led(0, 0), 1);
        due("led(1, 0)", x.led(1, 0), 2);
    }

    private static void p17_aRowNotKnown() {
        WhenItWas x = Check.with(2, 1);
        x.apart(0, 1, 0, 1, 1);
        x.on(0, 0, 10, 20);
        x.on(0, 1, 15, 18);
        due("led(1, 0)", x.led(1, 0), 1);
        due("led(0, 1)", x.led(0, 1), 2);
        x.takeBack(2);
        due("led(1, 0), the row taken back", x.led(1, 0), 2);
        due("led(0, 1), the row taken back", x.led(0, 1), 1);
    }

    private static void p17_noSuchThingIsBad() {
        badAheadOfNot("led(-1, 0)", x -> x.led(-1, 0), BAD);
        badAheadOfNot("led(3, 0) of three", x -> x.led(3, 0), BAD);
        badAheadOfNot("led(least, 0)", x -> x.led(LEAST, 0), BAD);
        badAheadOfNot("led(greatest, 0)", x -> x.led(GREATEST, 0), BAD);
        Cases.refused(WhenItWas::new, "led(0, 0) of none", x -> x.led(0, 0), BAD);
        Cases.refused(Scenes::packed, "led(12, 0) of twelve", x -> x.led(12, 0), BAD);
    }

    private static void p17_noSuchEndIsBad() {
        badAheadOfNot("led(0, -1)", x -> x.led(0, -1), BAD);
        badAheadOfNot("led(0, 2)", x -> x.led(0, 2), BAD);
        badAheadOfNot("led(0, least)", x -> x.led(0, LEAST), BAD);
        badAheadOfNot("led(0, greatest)", x -> x.led(0, GREATEST), BAD);
    }

    private static void p17_whereNotAllCanBeItIsNot() {
        Cases.refused(Scenes::torn, "led(0, 0)", x -> x.led(0, 0), NOT);
        Cases.refused(Scenes::torn, "led(2, 1)", x -> x.led(2, 1), NOT);
    }

    // ---- promise 18: changed

    private static void p18_anIBelow0IsBad() {
        badAheadOfNot("changed(0, -1)", x -> x.changed(0, -1), BAD);
        badAheadOfNot("changed(0, least)", x -> x.changed(0, LEAST), BAD);
    }

    private static void p18_noSuchThingIsBad() {
        badAheadOfNot("changed(-1, 0)", x -> x.changed(-1, 0), BAD);
        badAheadOfNot("changed(3, 0) of three", x -> x.changed(3, 0), BAD);
        badAheadOfNot("changed(least, 0)", x -> x.changed(LEAST, 0), BAD);
        badAheadOfNot("changed(greatest, 0)", x -> x.changed(GREATEST, 0), BAD);
        Cases.refused(WhenItWas::new, "changed(0, 0) of none", x -> x.changed(0, 0), BAD);
        Cases.refused(Scenes::packed, "changed(12, 0) of twelve", x -> x.changed(12, 0), BAD);
    }

    private static void p18_withNoRowsNone() {
        WhenItWas x = Check.with(1, 1);
        x.pass(9);
        due("changed(0, 0)", x.changed(0, 0), NONE);
    }

    private static void p18_day0IsNoDayOfChange() {
        WhenItWas x = Check.with(1, 1);
        x.on(0, 0, 5, 5);
        due("changed(0, 0) on day 0", x.changed(0, 0), NONE);
        x.pass(1);
        due("changed(0, 0) on day 1", x.changed(0, 0), NONE);
    }

    private static void p18_day1IsTheFirst() {
        WhenItWas x = Check.with(1, 1);
        x.pass(1);
        x.on(0, 0, 5, 5);
        due("changed(0, 0)", x.changed(0, 0), 1);
        due("changed(0, 1)", x.changed(0, 1), NONE);
    }

    private static void p18_theDayIsTheLast() {
        WhenItWas x = Check.with(1, 1);
        for (int k = 0; k < 3; k++) x.pass(100);
        x.pass(99);
        x.on(0, 0, 5, 5);
        due("changed(0, 0) on 399", x.changed(0, 0), 399);
        due("changed(0, 1) on 399", x.changed(0, 1), NONE);
    }

    private static void p18_aGreatIIsNone() {
        due("changed(2, 0)", Scenes.busy().changed(2, 0), 3);
        due("changed(2, 1)", Scenes.busy().changed(2, 1), NONE);
        due("changed(2, greatest)", Scenes.busy().changed(2, GREATEST), NONE);
    }

    private static void p18_ofEightyDaysAllAreTold() {
        WhenItWas x = Check.with(1, 1);
        for (int r = 0; r < 40; r++) {
            x.pass(1);
            x.on(0, 0, r, 100);
        }
        for (int r = 39; r >= 0; r--) {
            x.pass(1);
            x.takeBack(r);
        }
        due("changed(0, 0)", x.changed(0, 0), 1);
        due("changed(0, 39)", x.changed(0, 39), 40);
        due("changed(0, 40)", x.changed(0, 40), 41);
        due("changed(0, 79)", x.changed(0, 79), 80);
        due("changed(0, 80)", x.changed(0, 80), NONE);
    }

    private static void p18_aRowThatChangesNoSpanIsNoChange() {
        WhenItWas x = Check.with(1, 1);
        x.on(0, 0, 5, 9);
        x.pass(1);
        x.on(0, 0, 5, 9);
        x.pass(1);
        x.takeBack(0);
        x.pass(1);
        x.takeBack(1);
        due("changed(0, 0)", x.changed(0, 0), 3);
        due("changed(0, 1)", x.changed(0, 1), NONE);
    }

    private static void p18_oneEndAloneIsAChange() {
        WhenItWas x = Check.with(1, 1);
        x.on(0, 0, 5, 9);
        x.pass(1);
        x.on(0, 0, 6, 9);
        x.pass(1);
        x.on(0, 0, 6, 8);
        due("changed(0, 0), the least", x.changed(0, 0), 1);
        due("changed(0, 1), the greatest", x.changed(0, 1), 2);
    }

    private static void p18_bothEndsByTheSameIsAChange() {
        WhenItWas x = Check.with(1, 1);
        x.on(0, 0, 5, 9);
        x.pass(1);
        x.takeBack(0);
        x.on(0, 0, 6, 10);
        x.pass(1);
        x.takeBack(1);
        x.on(0, 0, -10, -6);
        due("changed(0, 0)", x.changed(0, 0), 1);
        due("changed(0, 1)", x.changed(0, 1), 2);
    }

    private static void p18_bothEndsAsMuchFartherIsAChange() {
        WhenItWas x = Check.with(1, 1);
        x.on(0, 0, 5, 9);
        x.pass(1);
        x.takeBack(0);
        x.on(0, 0, 4, 10);
        due("changed(0, 0)", x.changed(0, 0), 1);
    }

    private static void p18_toldAndTakenBackOnOneDayIsNoChange() {
        WhenItWas x = Check.with(1, 1);
        x.pass(1);
        x.on(0, 0, 5, 5);
        x.takeBack(0);
        due("changed(0, 0)", x.changed(0, 0), NONE);
    }

    private static void p18_thatNotAllCanBeIsAChangeForEachThing() {
        WhenItWas x = Check.with(2, 1);
        x.on(0, 0, 1, 1);
        x.pass(1);
        x.on(0, 0, 2, 2);
        x.pass(1);
        x.on(0, 0, 3, 3);
        x.pass(1);
        x.takeBack(1);
        x.takeBack(2);
        for (int t = 0; t < 2; t++) {
            due("changed(" + t + ", 0)", x.changed(t, 0), 1);
            due("changed(" + t + ", 1)", x.changed(t, 1), 3);
            due("changed(" + t + ", 2)", x.changed(t, 2), NONE);
        }
    }

    private static void p18_asOfDoesNotMatter() {
        WhenItWas x = Scenes.busy();
        x.asOf(0);
        due("changed(2, 0) as of 0", x.changed(2, 0), 3);
        Cases.changesNothing(Scenes::busy, "changed(2, 0)", y -> y.changed(2, 0));
    }

    // ---- promise 19: fits

    private static void p19_noSuchSheetIsBad() {
        bad("fits(-1)", x -> x.fits(-1));
        bad("fits(4)", x -> x.fits(4));
        bad("fits(least)", x -> x.fits(LEAST));
        bad("fits(greatest)", x -> x.fits(GREATEST));
    }

    private static void p19_aLostSheetIsNull() {
        Cases.finds(Scenes::busy, "fits(3)", x -> x.fits(3), 1);
        Cases.finds(WhenItWas::new, "fits(0) of a new object", x -> x.fits(0), 1);
    }

    private static void p19_fewerItemsThanThingsIsIndex() {
        Cases.finds(Scenes::busy, "fits(1), two items of three things", x -> x.fits(1), 2);
        Cases.finds(() -> {
            WhenItWas x = Scenes.packed();
            x.sheet(0, 0, 11);
            return x;
        }, "fits(0), eleven items of twelve things", x -> x.fits(0), 2);
        Cases.finds(() -> {
            WhenItWas x = Check.with(1, 0);
            x.sheet(0, 0, 0);
            return x;
        }, "fits(0), no items of one thing", x -> x.fits(0), 2);
    }

    private static void p19_indexAlsoWhereNotAllCanBe() {
        Cases.finds(Scenes::torn, "fits(1), two items of three things", x -> x.fits(1), 2);
    }

    private static void p19_asManyItemsAsThings() {
        WhenItWas x = Check.with(12, 1);
        x.sheet(0, 0, 12);
        due("fits(0), twelve items of twelve things", x.fits(0), 1);
        x.on(0, 11, 1, 1);
        due("fits(0), the last is another", x.fits(0), 0);
        x.put(0, 0, 11, 1);
        due("fits(0), the last is the one", x.fits(0), 1);
    }

    private static void p19_itemsBeyondTheThingsDoNotMatter() {
        WhenItWas x = Check.with(1, 1);
        Check.fill(x, 0, 2, 5, GREATEST, LEAST);
        due("fits(0)", x.fits(0), 1);
        x.sheet(1, 0, 40);
        due("fits(1) of forty items", x.fits(1), 1);
    }

    private static void p19_ofNoThings() {
        WhenItWas x = new WhenItWas();
        x.sheet(0, 0, 0);
        due("fits(0), no items of no things", x.fits(0), 1);
    }

    private static int fitsOnDay(int day) {
        WhenItWas x = Check.with(1, 1);
        Check.fill(x, 0, 2, day);
        return x.fits(0);
    }

    private static void p19_daysAreFromMinus200000To200000() {
        due("200000", fitsOnDay(200000), 1);
        due("-200000", fitsOnDay(-200000), 1);
        due("200001", fitsOnDay(200001), 0);
        due("-200001", fitsOnDay(-200001), 0);
        due("greatest", fitsOnDay(GREATEST), 0);
        due("least", fitsOnDay(LEAST), 0);
    }

    private static int fitsApart(int day) {
        WhenItWas x = Check.with(2, 1);
        x.apart(0, 1, 0, -3, 4);
        Check.fill(x, 0, 0, 10, day);
        return x.fits(0);
    }

    private static void p19_aRowApartFromXToY() {
        due("x less 1", fitsApart(6), 0);
        due("x", fitsApart(7), 1);
        due("y", fitsApart(14), 1);
        due("y and 1", fitsApart(15), 0);
    }

    private static void p19_daysThatWrapAroundDoNotFit() {
        WhenItWas x = Check.with(2, 1);
        x.apart(0, 1, 0, -1, 1);
        Check.fill(x, 0, 2, LEAST, GREATEST);
        due("fits(0) of the least and the greatest int", x.fits(0), 0);
    }

    private static int fitsByClock(int day) {
        WhenItWas x = Check.with(1, 0);
        x.book(-2, 5);
        x.on(0, 0, 100, 110);
        Check.fill(x, 0, 2, day);
        return x.fits(0);
    }

    private static void p19_aRowOnByWhatItsClockMayBe() {
        due("x less the greatest, less 1", fitsByClock(94), 0);
        due("x less the greatest", fitsByClock(95), 1);
        due("y less the least", fitsByClock(112), 1);
        due("y less the least, and 1", fitsByClock(113), 0);
    }

    private static void p19_aClockIsOffByTheSameForAllItSays() {
        WhenItWas x = Check.with(2, 0);
        x.book(-2, 5);
        x.on(0, 0, 100, 100);
        x.on(0, 1, 100, 100);
        Check.fill(x, 0, 0, 96, 96);
        due("both off by 4", x.fits(0), 1);
        x.put(0, 0, 1, 97);
        due("off by 4 and 3", x.fits(0), 0);
    }

    private static void p19_whereNotAllCanBeNothingFits() {
        due("fits(2)", Scenes.torn().fits(2), 0);
        Cases.changesNothing(Scenes::torn, "fits(2)", x -> x.fits(2));
    }

    private static void p19_rowsNotKnownDoNotMatter() {
        WhenItWas x = Check.with(1, 1);
        x.sheet(0, 0, 1);
        x.pass(1);
        x.on(0, 0, 5, 5);
        due("fits(0) as of 1", x.fits(0), 0);
        x.asOf(0);
        due("fits(0) as of 0", x.fits(0), 1);
        WhenItWas y = Check.with(2, 1);
        y.sheet(0, 0, 2);
        y.apart(0, 1, 0, 1, 1);
        due("fits(0), a row APART", y.fits(0), 0);
        y.takeBack(0);
        due("fits(0), the row APART taken back", y.fits(0), 1);
    }

    // ---- promise 20: room

    private static void p20_noSuchSheetIsBad() {
        bad("room(-1, 0)", x -> x.room(-1, 0));
        bad("room(4, 0)", x -> x.room(4, 0));
        bad("room(least, 0)", x -> x.room(LEAST, 0));
        bad("room(greatest, 0)", x -> x.room(GREATEST, 0));
    }

    private static void p20_noSuchBookIsBad() {
        bad("room(2, -1)", x -> x.room(2, -1));
        bad("room(2, 2) of two", x -> x.room(2, 2));
        bad("room(2, least)", x -> x.room(2, LEAST));
        bad("room(2, greatest)", x -> x.room(2, GREATEST));
        Cases.refused(Scenes::packed, "room(0, 6) of six", x -> x.room(0, 6), BAD);
    }

    private static void p20_badComesAheadOfFindings() {
        bad("room(3, 2), lost", x -> x.room(3, 2));
        bad("room(1, 2), too few items", x -> x.room(1, 2));
    }

    private static void p20_aLostSheetIsNull() {
        Cases.finds(Scenes::busy, "room(3, 0)", x -> x.room(3, 0), 1);
    }

    private static void p20_fewerItemsThanThingsIsIndex() {
        Cases.finds(Scenes::busy, "room(1, 0)", x -> x.room(1, 0), 2);
    }

    private static void p20_findingsComeAheadOfNot() {
        Cases.finds(Scenes::torn, "room(3, 0)", x -> x.room(3, 0), 1);
        Cases.finds(Scenes::torn, "room(1, 0)", x -> x.room(1, 0), 2);
    }

    private static void p20_oneThatIsNotFittingIsNot() {
        Cases.refused(Scenes::busy, "room(2, 0)", x -> x.room(2, 0), NOT);
        Cases.refused(Scenes::busy, "room(2, 1)", x -> x.room(2, 1), NOT);
        Cases.refused(Scenes::torn, "room(2, 1)", x -> x.room(2, 1), NOT);
    }

    private static int roomOn(int least, int greatest, int day) {
        WhenItWas x = Check.with(1, 0);
        x.book(least, greatest);
        x.on(0, 0, 100, 110);
        Check.fill(x, 0, 2, day);
        return x.room(0, 0);
    }

    private static void p20_theLeastRoomIs1() {
        due("off by its least alone", roomOn(-1000, -990, 1110), 1);
        due("off by its greatest alone", roomOn(-1000, -990, 1090), 1);
        due("off by one number as told", roomOn(0, 0, 105), 1);
    }

    private static void p20_nextToTheLeastRoomItIsNot() {
        due("off by less than its least", roomOn(-1000, -990, 1111), NOT);
        due("off by more than its greatest", roomOn(-1000, -990, 1089), NOT);
    }

    private static void p20_theGreatestRoomIs2001() {
        WhenItWas x = Check.with(1, 0);
        x.book(-1000, 1000);
        Check.fill(x, 0, 2, 0);
        due("room(0, 0) of a book that says nothing", x.room(0, 0), 2001);
        x.on(0, 0, -1000, 1000);
        due("room(0, 0) of a book that says all of it", x.room(0, 0), 2001);
        x.on(0, 0, -999, 1000);
        due("room(0, 0) of one number less", x.room(0, 0), 2000);
    }

    private static void p20_theLastBook() {
        WhenItWas x = Check.with(1, 5);
        x.book(-1, 1);
        x.sheet(0, 0, 1);
        due("room(0, 5)", x.room(0, 5), 3);
    }

    // ---- promise 21: kin

    private static void noKin(String call, Cases.Act act) {
        badAheadOfNot(call, act, NO_DIFFERENCE);
    }

    private static void p21_noSuchBookIsBad() {
        noKin("kin(-1, 0, 0)", x -> x.kin(-1, 0, 0));
        noKin("kin(2, 0, 0) of two", x -> x.kin(2, 0, 0));
        noKin("kin(0, -1, 0)", x -> x.kin(0, -1, 0));
        noKin("kin(0, 2, 0) of two", x -> x.kin(0, 2, 0));
        noKin("kin(least, 0, 0)", x -> x.kin(LEAST, 0, 0));
        noKin("kin(0, greatest, 0)", x -> x.kin(0, GREATEST, 0));
        Cases.refused(Scenes::packed, "kin(6, 0, 0) of six", x -> x.kin(6, 0, 0), NO_DIFFERENCE);
        Cases.refused(Scenes::packed, "kin(0, 6, 0) of six", x -> x.kin(0, 6, 0), NO_DIFFERENCE);
    }

    private static void p21_oneWithItselfIsBad() {
        for (int what = 0; what <= 2; what++) {
            int asked = what;
            noKin("kin(1, 1, " + what + ")", x -> x.kin(1, 1, asked));
        }
    }

    private static void p21_noSuchWhatIsBad() {
        noKin("kin(0, 1, -1)", x -> x.kin(0, 1, -1));
        noKin("kin(0, 1, 3)", x -> x.kin(0, 1, 3));
        noKin("kin(0, 1, least)", x -> x.kin(0, 1, LEAST));
        noKin("kin(0, 1, greatest)", x -> x.kin(0, 1, GREATEST));
    }

    private static void p21_ofNoneThereIsNoNumber() {
        due("kin(0, 1, 0)", Scenes.busy().kin(0, 1, 0), 0);
        due("kin(0, 1, 1)", Scenes.busy().kin(0, 1, 1), 0);
        Cases.refused(Scenes::busy, "kin(0, 1, 2)", x -> x.kin(0, 1, 2), NOT);
        Cases.refused(() -> Check.with(0, 2), "kin(0, 1, 2) of no things", x -> x.kin(0, 1, 2), NOT);
    }

    private static WhenItWas twoSay(int first, int second) {
        WhenItWas x = Check.with(1, 2);
        x.on(0, 0, first, first);
        x.on(1, 0, second, second);
        return x;
    }

    private static void p21_theNumberMayBe400000() {
        due("kin(0, 1, 2)", twoSay(-200000, 200000).kin(0, 1, 2), 400000);
        due("kin(1, 0, 2)", twoSay(-200000, 200000).kin(1, 0, 2), -400000);
    }

    private static void p21_aNumber0IsANumber() {
        due("kin(0, 1, 0)", twoSay(8, 8).kin(0, 1, 0), 1);
        due("kin(0, 1, 1)", twoSay(8, 8).kin(0, 1, 1), 1);
        due("kin(0, 1, 2)", twoSay(8, 8).kin(0, 1, 2), 0);
    }

    private static void p21_notAllNeedBe() {
        due("all()", twoSay(8, 9).all(), 0);
        due("kin(0, 1, 2)", twoSay(8, 9).kin(0, 1, 2), 1);
    }

    private static void p21_aDayMoreIsNotExactly() {
        WhenItWas x = twoSay(8, 9);
        x.on(1, 0, 9, 10);
        due("kin(0, 1, 0)", x.kin(0, 1, 0), 0);
        x.on(1, 0, 11, 11);
        due("kin(0, 1, 2), the latest is exact again", x.kin(0, 1, 2), 3);
    }

    private static void p21_theLatestKnownByNumbers() {
        WhenItWas x = twoSay(8, 9);
        x.pass(1);
        x.on(1, 0, 12, 12);
        due("kin(0, 1, 2)", x.kin(0, 1, 2), 4);
        x.takeBack(2);
        due("kin(0, 1, 2), the latest is taken back", x.kin(0, 1, 2), 1);
        x.takeBack(1);
        due("kin(0, 1, 0), all are taken back", x.kin(0, 1, 0), 0);
        x.asOf(0);
        due("kin(0, 1, 2) as of 0", x.kin(0, 1, 2), 1);
    }

    private static void p21_rowsApartDoNotCount() {
        WhenItWas x = Check.with(2, 2);
        x.apart(0, 0, 1, 5, 5);
        x.apart(1, 0, 1, 5, 5);
        due("kin(0, 1, 0)", x.kin(0, 1, 0), 0);
    }

    private static WhenItWas saidOfTwelve(int... differences) {
        WhenItWas x = Check.with(12, 6);
        for (int t = 0; t < 12; t++) {
            x.on(4, t, 50, 50);
            x.on(5, t, 50 + differences[t], 50 + differences[t]);
        }
        return x;
    }

    private static void p21_allTwelveThings() {
        WhenItWas x = saidOfTwelve(3, 3, 3, 3, 3, 3, 3, 3, 3, 3, 3, 3);
        due("kin(4, 5, 0)", x.kin(4, 5, 0), 12);
        due("kin(4, 5, 1)", x.kin(4, 5, 1), 12);
        due("kin(4, 5, 2)", x.kin(4, 5, 2), 3);
    }

    private static void p21_ofLikeOnesTheLeast() {
        WhenItWas x = saidOfTwelve(7, 1, 2, 3, 4, 5, -6, 8, 9, 10, 7, -6);
        due("kin(4, 5, 1)", x.kin(4, 5, 1), 2);
        due("kin(4, 5, 2)", x.kin(4, 5, 2), -6);
        due("kin(5, 4, 2)", x.kin(5, 4, 2), -7);
    }

    private static void p21_theMostAheadOfTheLeast() {
        WhenItWas x = saidOfTwelve(3, 3, 1, 2, 0, -1, -2, 4, 5, 6, 7, -9);
        due("kin(4, 5, 1)", x.kin(4, 5, 1), 2);
        due("kin(4, 5, 2)", x.kin(4, 5, 2), 3);
    }

    // ---- promise 22: hangs

    private static void p22_noSuchThingIsBad() {
        long answer = Long.MIN_VALUE + 2;
        badAheadOfNot("hangs(-1)", x -> x.hangs(-1), answer);
        badAheadOfNot("hangs(3) of three", x -> x.hangs(3), answer);
        badAheadOfNot("hangs(least)", x -> x.hangs(LEAST), answer);
        badAheadOfNot("hangs(greatest)", x -> x.hangs(GREATEST), answer);
        Cases.refused(WhenItWas::new, "hangs(0) of none", x -> x.hangs(0), answer);
        Cases.refused(Scenes::packed, "hangs(12) of twelve", x -> x.hangs(12), answer);
    }

    private static void p22_whereNotAllCanBeItIsNot() {
        for (int t = 0; t < 3; t++) {
            int thing = t;
            Cases.refused(Scenes::torn, "hangs(" + t + ")", x -> x.hangs(thing), Long.MIN_VALUE + 3);
        }
    }

    private static void p22_withNoRowsNone() {
        due("hangs(0)", Check.with(1, 0).hangs(0), 0);
    }

    private static void p22_theFortiethRow() {
        WhenItWas x = Check.with(2, 1);
        for (int r = 0; r < 39; r++) x.on(0, 0, 5, 9);
        x.on(0, 0, 6, 9);
        due("hangs(0)", x.hangs(0), 1L << 39);
        due("hangs(1)", x.hangs(1), 0);
    }

    private static void p22_withoutItAlone() {
        WhenItWas x = Check.with(1, 1);
        x.on(0, 0, 5, 9);
        due("hangs(0) on one", x.hangs(0), 1);
        x.on(0, 0, 5, 9);
        due("hangs(0) on two alike", x.hangs(0), 0);
        x.on(0, 0, 5, 8);
        due("hangs(0), the greatest on a third", x.hangs(0), 4);
    }

    private static void p22_onAllRowsOfTheLongestWay() {
        due("hangs(11)", longestWay(false).hangs(11), (1L << 17) - 1);
        due("hangs(11), told from its end on", longestWay(true).hangs(11), (1L << 17) - 1);
    }

    private static void p22_bothEndsAsMuchNearerThanAllDays() {
        WhenItWas x = Check.with(1, 1);
        x.on(0, 0, -5, 5);
        due("hangs(0)", x.hangs(0), 1);
    }

    private static void p22_aRowThatTellsNoMoreThanAllDays() {
        WhenItWas x = Check.with(1, 1);
        x.on(0, 0, -200000, 200000);
        due("hangs(0)", x.hangs(0), 0);
    }

    private static void p22_aRowNotKnown() {
        WhenItWas x = Check.with(1, 1);
        x.on(0, 0, 5, 9);
        x.takeBack(0);
        due("hangs(0)", x.hangs(0), 0);
        x.pass(1);
        x.on(0, 0, 5, 9);
        due("hangs(0) now", x.hangs(0), 2);
        x.asOf(0);
        due("hangs(0) as of 0", x.hangs(0), 0);
    }
}
