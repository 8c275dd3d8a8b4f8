/** Boundary cases of the promises 25 to 29, one by one: what surely came first, orders, the best question. */
public final class EdgesOfOrdersTest {
    private static final int NONE = WhenItWas.NONE, BAD = WhenItWas.BAD, NOT = WhenItWas.NOT;
    private static final int LEAST = Integer.MIN_VALUE, GREATEST = Integer.MAX_VALUE;
    private static final long LONG_BAD = Long.MIN_VALUE + 2, LONG_NOT = Long.MIN_VALUE + 3;
    private static final long ALL_ORDERS_OF_12 = 479001600L, ALL_ORDERS_OF_11 = 39916800L;

    public static void main(String[] args) throws IllegalAccessException {
        Cases.run(EdgesOfOrdersTest.class, 25, 29);
    }

    private static void due(String call, long got, long want) {
        Cases.due(call, got, want);
    }

    /** Refused with this answer where all rows can be, and where they cannot. */
    private static void badAheadOfNot(String call, Cases.Act act, long answer) {
        Cases.refused(Scenes::busy, call, act, answer);
        Cases.refused(Scenes::torn, call + ", not all can be", act, answer);
    }

    /** Each thing surely ahead of the next. */
    private static WhenItWas line(int things) {
        WhenItWas x = Check.with(things, 1);
        for (int t = 1; t < things; t++) x.apart(0, t, t - 1, 1, 9);
        return x;
    }

    // ---- promise 25: ahead

    private static WhenItWas apartFrom(int days) {
        WhenItWas x = Check.with(2, 1);
        x.apart(0, 1, 0, days, 100000);
        return x;
    }

    private static void p25_oneDayAheadIsSurely() {
        due("ahead(0, 1)", apartFrom(1).ahead(0, 1), 1);
        due("ahead(1, 0)", apartFrom(1).ahead(1, 0), 0);
    }

    private static void p25_onTheSameDayIsNotSurely() {
        due("ahead(0, 1)", apartFrom(0).ahead(0, 1), 0);
        due("ahead(1, 0)", apartFrom(0).ahead(1, 0), 0);
    }

    private static void p25_oneDayAheadByDays() {
        WhenItWas x = Check.with(3, 1);
        x.on(0, 0, 5, 10);
        x.on(0, 1, 10, 12);
        x.on(0, 2, 11, 12);
        due("ahead(0, 1), 10 and 10", x.ahead(0, 1), 0);
        due("ahead(0, 2), 10 and 11", x.ahead(0, 2), 1);
    }

    private static void p25_aheadByTheLastDays() {
        WhenItWas x = Check.with(3, 1);
        x.on(0, 0, 200000, 200000);
        x.on(0, 1, -200000, -200000);
        due("ahead(2, 0), 200000 for both", x.ahead(2, 0), 0);
        due("ahead(1, 2), -200000 for both", x.ahead(1, 2), 0);
        due("ahead(1, 0)", x.ahead(1, 0), 1);
        x.on(0, 2, -199999, 199999);
        due("ahead(2, 0), 199999", x.ahead(2, 0), 1);
        due("ahead(1, 2), -199999", x.ahead(1, 2), 1);
    }

    private static void p25_ofItselfIsBad() {
        badAheadOfNot("ahead(1, 1)", x -> x.ahead(1, 1), BAD);
    }

    private static void p25_noSuchThingIsBad() {
        badAheadOfNot("ahead(-1, 0)", x -> x.ahead(-1, 0), BAD);
        badAheadOfNot("ahead(3, 0) of three", x -> x.ahead(3, 0), BAD);
        badAheadOfNot("ahead(0, -1)", x -> x.ahead(0, -1), BAD);
        badAheadOfNot("ahead(0, 3) of three", x -> x.ahead(0, 3), BAD);
        badAheadOfNot("ahead(least, 0)", x -> x.ahead(LEAST, 0), BAD);
        badAheadOfNot("ahead(0, greatest)", x -> x.ahead(0, GREATEST), BAD);
        Cases.refused(Scenes::packed, "ahead(12, 0) of twelve", x -> x.ahead(12, 0), BAD);
        Cases.refused(Scenes::packed, "ahead(0, 12) of twelve", x -> x.ahead(0, 12), BAD);
    }

    private static void p25_whereNotAllCanBeItIsNot() {
        Cases.refused(Scenes::torn, "ahead(0, 1)", x -> x.ahead(0, 1), NOT);
        Cases.refused(Scenes::torn, "ahead(0, 2)", x -> x.ahead(0, 2), NOT);
    }

    private static void p25_theLastThings() {
        due("ahead(10, 11)", line(12).ahead(10, 11), 1);
        due("ahead(0, 11)", line(12).ahead(0, 11), 1);
        due("ahead(11, 0)", line(12).ahead(11, 0), 0);
    }

    // ---- promise 26: orders

    private static void p26_ofNoThings() {
        due("orders()", new WhenItWas().orders(), 1);
    }

    private static void p26_ofOneThing() {
        due("orders()", Check.with(1, 0).orders(), 1);
    }

    private static void p26_theMostOrders() {
        due("orders() of twelve", Check.with(12, 0).orders(), ALL_ORDERS_OF_12);
    }

    private static void p26_theFewestOrders() {
        due("orders() of twelve in a line", line(12).orders(), 1);
    }

    private static WhenItWas twelveOnDays(int first, int between) {
        WhenItWas x = Check.with(12, 6);
        for (int t = 0; t < 12; t++) x.on(t % 6, t, first + between * t, first + between * t);
        return x;
    }

    private static void p26_twelveEachOnADayOfItsOwn() {
        due("orders() of days -6 to 5", twelveOnDays(-6, 1).orders(), 1);
        due("orders() of days 1 to 12", twelveOnDays(1, 1).orders(), 1);
        due("orders() of days -1 to -12", twelveOnDays(-1, -1).orders(), 1);
    }

    private static void p26_twelveOnOneDay() {
        due("orders() of day 5", twelveOnDays(5, 0).orders(), ALL_ORDERS_OF_12);
        due("orders() of day -5", twelveOnDays(-5, 0).orders(), ALL_ORDERS_OF_12);
    }

    private static void p26_onTheSameDayBothOrdersCount() {
        due("orders(), perhaps the same day", apartFrom(0).orders(), 2);
        due("orders(), at least a day", apartFrom(1).orders(), 1);
    }

    private static void p26_whereNotAllCanBeItIsNot() {
        Cases.refused(Scenes::torn, "orders()", x -> x.orders(), LONG_NOT);
    }

    private static void p26_asOfADay() {
        WhenItWas x = Check.with(2, 1);
        x.pass(1);
        x.apart(0, 1, 0, 1, 1);
        due("orders() as of 1", x.orders(), 1);
        x.asOf(0);
        due("orders() as of 0", x.orders(), 2);
    }

    // ---- promise 27: share

    private static void p27_noSuchThingIsBad() {
        badAheadOfNot("share(-1, 0, 0)", x -> x.share(-1, 0, 0), LONG_BAD);
        badAheadOfNot("share(3, 0, 0) of three", x -> x.share(3, 0, 0), LONG_BAD);
        badAheadOfNot("share(0, -1, 0)", x -> x.share(0, -1, 0), LONG_BAD);
        badAheadOfNot("share(0, 3, 0) of three", x -> x.share(0, 3, 0), LONG_BAD);
        badAheadOfNot("share(least, 0, 0)", x -> x.share(LEAST, 0, 0), LONG_BAD);
        badAheadOfNot("share(0, greatest, 0)", x -> x.share(0, GREATEST, 0), LONG_BAD);
        Cases.refused(Scenes::packed, "share(12, 0, 0) of twelve", x -> x.share(12, 0, 0), LONG_BAD);
        Cases.refused(Scenes::packed, "share(0, 12, 0) of twelve", x -> x.share(0, 12, 0), LONG_BAD);
    }

    private static void p27_oneThingTwiceIsBad() {
        badAheadOfNot("share(1, 1, 0)", x -> x.share(1, 1, 0), LONG_BAD);
        badAheadOfNot("share(1, 1, 1)", x -> x.share(1, 1, 1), LONG_BAD);
    }

    private static void p27_noSuchWhatIsBad() {
        badAheadOfNot("share(0, 1, -1)", x -> x.share(0, 1, -1), LONG_BAD);
        badAheadOfNot("share(0, 1, 2)", x -> x.share(0, 1, 2), LONG_BAD);
        badAheadOfNot("share(0, 1, least)", x -> x.share(0, 1, LEAST), LONG_BAD);
        badAheadOfNot("share(0, 1, greatest)", x -> x.share(0, 1, GREATEST), LONG_BAD);
    }

    private static void p27_whereNotAllCanBeItIsNot() {
        Cases.refused(Scenes::torn, "share(0, 1, 0)", x -> x.share(0, 1, 0), LONG_NOT);
        Cases.refused(Scenes::torn, "share(0, 1, 1)", x -> x.share(0, 1, 1), LONG_NOT);
    }

    private static void share(WhenItWas x, int thing, int other, long above, long below) {
        due("share(" + thing + ", " + other + ", 0)", x.share(thing, other, 0), above);
        due("share(" + thing + ", " + other + ", 1)", x.share(thing, other, 1), below);
    }

    private static void p27_surelyAheadIsOneOfOne() {
        share(line(12), 0, 11, 1, 1);
        share(apartFrom(1), 0, 1, 1, 1);
    }

    private static void p27_neverAheadIsNoneOfOne() {
        share(line(12), 11, 0, 0, 1);
        share(apartFrom(1), 1, 0, 0, 1);
    }

    private static void p27_ofTwelveFreeOnesOneOfTwo() {
        share(Check.with(12, 0), 0, 11, 1, 2);
        share(Check.with(12, 0), 11, 0, 1, 2);
    }

    private static void p27_inLowestTerms() {
        WhenItWas x = line(11);
        x.thing();
        share(x, 11, 0, 1, 12);
        share(x, 0, 11, 11, 12);
        share(x, 11, 5, 1, 2);
        share(x, 11, 3, 1, 3);
        share(x, 8, 11, 1, 4);
    }

    // ---- promise 28: first

    private static void p28_noSuchThingIsBad() {
        badAheadOfNot("first(-1)", x -> x.first(-1), LONG_BAD);
        badAheadOfNot("first(3) of three", x -> x.first(3), LONG_BAD);
        badAheadOfNot("first(least)", x -> x.first(LEAST), LONG_BAD);
        badAheadOfNot("first(greatest)", x -> x.first(GREATEST), LONG_BAD);
        Cases.refused(WhenItWas::new, "first(0) of none", x -> x.first(0), LONG_BAD);
        Cases.refused(Scenes::packed, "first(12) of twelve", x -> x.first(12), LONG_BAD);
    }

    private static void p28_whereNotAllCanBeItIsNot() {
        for (int t = 0; t < 3; t++) {
            int thing = t;
            Cases.refused(Scenes::torn, "first(" + t + ")", x -> x.first(thing), LONG_NOT);
        }
    }

    private static void p28_ofOneThing() {
        due("first(0)", Check.with(1, 0).first(0), 1);
    }

    private static void p28_ofTwelveFreeOnes() {
        due("first(0)", Check.with(12, 0).first(0), ALL_ORDERS_OF_11);
        due("first(11)", Check.with(12, 0).first(11), ALL_ORDERS_OF_11);
    }

    private static void p28_allOrdersBeginWithIt() {
        WhenItWas x = Check.with(12, 1);
        for (int t = 0; t < 11; t++) x.apart(0, t, 11, 1, 9);
        due("first(11)", x.first(11), ALL_ORDERS_OF_11);
        due("orders()", x.orders(), ALL_ORDERS_OF_11);
        due("first(0)", x.first(0), 0);
    }

    private static void p28_noOrderBeginsWithIt() {
        due("first(1)", line(12).first(1), 0);
        due("first(11)", line(12).first(11), 0);
        due("first(0)", line(12).first(0), 1);
    }

    // ---- promise 29: question

    private static void p29_ofNoThingsNone() {
        due("question()", new WhenItWas().question(), NONE);
    }

    private static void p29_ofOneThingNone() {
        due("question()", Check.with(1, 0).question(), NONE);
    }

    private static void p29_whereAllIsSureNone() {
        due("question() of two", apartFrom(1).question(), NONE);
        due("question() of twelve", line(12).question(), NONE);
    }

    private static void p29_whereAllIsSureTheOtherWayRoundNone() {
        WhenItWas x = Check.with(2, 1);
        x.apart(0, 0, 1, 1, 9);
        due("question() of two", x.question(), NONE);
        due("question() of twelve", twelveOnDays(-1, -1).question(), NONE);
    }

    private static void p29_askedAgainAsMoreIsTold() {
        WhenItWas x = Check.with(4, 1);
        due("question() of four free ones", x.question(), 1);
        x.apart(0, 1, 0, 1, 9);
        due("question() then", x.question(), 203);
        due("question() again", x.question(), 203);
        x.apart(0, 2, 1, 1, 9);
        due("question() with three in a line", x.question(), 103);
        x.apart(0, 3, 1, 1, 9);
        due("question() with two left", x.question(), 203);
        x.apart(0, 3, 2, 1, 9);
        due("question() at the end", x.question(), NONE);
    }

    private static void p29_ofTwoBranches() {
        WhenItWas x = Check.with(5, 1);
        x.apart(0, 0, 2, 1, 9);
        x.apart(0, 1, 3, 1, 9);
        x.apart(0, 4, 3, 1, 9);
        due("question()", x.question(), 104);
    }

    private static void p29_perhapsTheSameDayIsAQuestion() {
        due("question()", apartFrom(0).question(), 1);
    }

    private static void p29_theFirstPairIs1() {
        due("question() of twelve free ones", Check.with(12, 0).question(), 1);
    }

    private static void p29_theLastPairIs1011() {
        WhenItWas x = Check.with(12, 1);
        for (int t = 1; t < 11; t++) x.apart(0, t, t - 1, 1, 9);
        x.apart(0, 11, 9, 1, 9);
        due("question(), the last two free", x.question(), 1011);
    }

    private static void p29_ofLikeOnesTheLeastFirst() {
        WhenItWas x = Check.with(4, 1);
        for (int t = 2; t < 4; t++) {
            x.apart(0, t, 0, 1, 9);
            x.apart(0, t, 1, 1, 9);
        }
        due("question(), 0 and 1 or 2 and 3", x.question(), 1);
    }

    private static void p29_ofLikeOnesTheLeastSecond() {
        WhenItWas x = Check.with(3, 1);
        x.apart(0, 2, 1, 1, 9);
        due("question(), 0 and 1 or 0 and 2", x.question(), 1);
        WhenItWas y = Check.with(3, 1);
        y.apart(0, 1, 2, 1, 9);
        due("question(), turned", y.question(), 1);
    }

    private static void p29_theFewestAtWorst() {
        WhenItWas x = line(11);
        x.thing();
        due("question(), the free one and the sixth of eleven", x.question(), 511);
    }

    private static void p29_whereNotAllCanBeItIsNot() {
        Cases.refused(Scenes::torn, "question()", x -> x.question(), NOT);
    }
}
