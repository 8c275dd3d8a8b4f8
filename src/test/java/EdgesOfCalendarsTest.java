/** Boundary cases of the promises 30 to 35, one by one: calendars, and dates as texts. */
public final class EdgesOfCalendarsTest {
    private static final int NONE = WhenItWas.NONE, BAD = WhenItWas.BAD, NOT = WhenItWas.NOT, FULL = WhenItWas.FULL;
    private static final int LEAST = Integer.MIN_VALUE, GREATEST = Integer.MAX_VALUE;
    private static final int NO_DAY = -300000;
    private static final int[] FIRST_DAY = {-72744, -72742}, LAST_DAY = {146405, 146402};
    private static final int[] MONTH_DAYS = {31, 28, 31, 30, 31, 30, 31, 31, 30, 31, 30, 31};

    public static void main(String[] args) throws IllegalAccessException {
        Cases.run(EdgesOfCalendarsTest.class, 30, 35);
    }

    private static void due(String call, long got, long want) {
        Cases.due(call, got, want);
    }

    private static void bad(String call, Cases.Act act) {
        Cases.bad(call, act);
    }

    // ---- promise 30: dayOf

    private static void noDate(int calendar, int day, int month, int year) {
        Cases.refused(Scenes::busy, "dayOf(" + calendar + ", " + day + ", " + month + ", " + year + ")",
                x -> x.dayOf(calendar, day, month, year), NO_DAY);
    }

    private static void isDay(int calendar, int day, int month, int year, int number) {
        due("dayOf(" + calendar + ", " + day + ", " + month + ", " + year + ")",
                new WhenItWas().dayOf(calendar, day, month, year), number);
    }

    private static void p30_day0IsThe1stOfThe3rdMonthOf200InBoth() {
        isDay(0, 1, 3, 200, 0);
        isDay(1, 1, 3, 200, 0);
    }

    private static void p30_theDayAheadOfDay0() {
        isDay(0, 29, 2, 200, -1);
        isDay(1, 28, 2, 200, -1);
    }

    private static void p30_noSuchCalendarIsBad() {
        noDate(-1, 1, 1, 1);
        noDate(2, 1, 1, 1);
        noDate(LEAST, 1, 1, 1);
        noDate(GREATEST, 1, 1, 1);
    }

    private static void p30_theFirstYearIs1() {
        for (int c = 0; c < 2; c++) {
            isDay(c, 1, 1, 1, FIRST_DAY[c]);
            noDate(c, 31, 12, 0);
            noDate(c, 1, 1, -1);
            noDate(c, 1, 1, LEAST);
        }
    }

    private static void p30_theLastYearIs600() {
        for (int c = 0; c < 2; c++) {
            isDay(c, 31, 12, 600, LAST_DAY[c]);
            noDate(c, 1, 1, 601);
            noDate(c, 1, 1, GREATEST);
        }
    }

    private static void p30_theFirstMonthIs1() {
        for (int c = 0; c < 2; c++) {
            isDay(c, 1, 1, 201, 306);
            noDate(c, 1, 0, 201);
            noDate(c, 1, -1, 201);
            noDate(c, 1, LEAST, 201);
        }
    }

    private static void p30_theLastMonthIs12() {
        for (int c = 0; c < 2; c++) {
            isDay(c, 1, 12, 200, 275);
            noDate(c, 1, 13, 200);
            noDate(c, 1, GREATEST, 200);
        }
    }

    private static void p30_theFirstDayOfAMonthIs1() {
        for (int c = 0; c < 2; c++) {
            for (int month = 1; month <= 12; month++) {
                noDate(c, 0, month, 201);
                due("the 1st of " + month + " is a day", new WhenItWas().dayOf(c, 1, month, 201) >= 306 ? 1 : 0, 1);
            }
            noDate(c, -1, 1, 201);
            noDate(c, LEAST, 1, 201);
        }
    }

    private static void monthsEnd(int calendar, int year, int daysOfThe2nd) {
        WhenItWas x = new WhenItWas();
        for (int month = 1; month <= 12; month++) {
            int length = month == 2 ? daysOfThe2nd : MONTH_DAYS[month - 1];
            int next = month < 12 ? x.dayOf(calendar, 1, month + 1, year) : x.dayOf(calendar, 1, 1, year + 1);
            isDay(calendar, length, month, year, next - 1);
            noDate(calendar, length + 1, month, year);
        }
    }

    private static void p30_theLastDayOfEachMonth() {
        for (int c = 0; c < 2; c++) {
            monthsEnd(c, 203, 28);
            monthsEnd(c, 204, 29);
            noDate(c, GREATEST, 1, 204);
        }
    }

    private static void p30_yearsThat4DividesAreLeap() {
        for (int c = 0; c < 2; c++) {
            monthsEnd(c, 4, 29);
            monthsEnd(c, 596, 29);
            noDate(c, 29, 2, 1);
            noDate(c, 29, 2, 2);
            noDate(c, 29, 2, 3);
            noDate(c, 29, 2, 5);
        }
    }

    private static void p30_years100DividesAreLeapInCalendar0Alone() {
        for (int year = 100; year <= 600; year += 100) {
            if (year != 400) {
                due("29.2." + year + "a", new WhenItWas().dayOf(0, 29, 2, year) != NO_DAY ? 1 : 0, 1);
                noDate(1, 29, 2, year);
            }
        }
        monthsEnd(0, 300, 29);
        monthsEnd(1, 300, 28);
    }

    private static void p30_theYear400IsLeapInBoth() {
        monthsEnd(0, 400, 29);
        monthsEnd(1, 400, 29);
        isDay(1, 29, 2, 400, 73048);
    }

    // ---- promise 31: dateOf

    private static void isDate(int calendar, int number, int day, int month, int year) {
        WhenItWas x = new WhenItWas();
        String call = "dateOf(" + calendar + ", " + number + ", ";
        due(call + "0)", x.dateOf(calendar, number, 0), day);
        due(call + "1)", x.dateOf(calendar, number, 1), month);
        due(call + "2)", x.dateOf(calendar, number, 2), year);
    }

    private static void noDayOf(int calendar, int number) {
        for (int what = 0; what <= 2; what++) {
            int asked = what;
            bad("dateOf(" + calendar + ", " + number + ", " + what + ")", x -> x.dateOf(calendar, number, asked));
        }
    }

    private static void p31_theFirstDayOfAll() {
        for (int c = 0; c < 2; c++) isDate(c, FIRST_DAY[c], 1, 1, 1);
    }

    private static void p31_aDayAheadOfAllYearsIsBad() {
        for (int c = 0; c < 2; c++) {
            noDayOf(c, FIRST_DAY[c] - 1);
            noDayOf(c, -200000);
            noDayOf(c, -200001);
            noDayOf(c, LEAST);
        }
    }

    private static void p31_theLastDayOfAll() {
        for (int c = 0; c < 2; c++) isDate(c, LAST_DAY[c], 31, 12, 600);
    }

    private static void p31_aDayBehindAllYearsIsBad() {
        for (int c = 0; c < 2; c++) {
            noDayOf(c, LAST_DAY[c] + 1);
            noDayOf(c, 200000);
            noDayOf(c, 200001);
            noDayOf(c, GREATEST);
        }
    }

    private static void p31_noSuchCalendarIsBad() {
        noDayOf(-1, 0);
        noDayOf(2, 0);
        noDayOf(LEAST, 0);
        noDayOf(GREATEST, 0);
    }

    private static void p31_noSuchWhatIsBad() {
        bad("dateOf(0, 0, -1)", x -> x.dateOf(0, 0, -1));
        bad("dateOf(0, 0, 3)", x -> x.dateOf(0, 0, 3));
        bad("dateOf(1, 0, least)", x -> x.dateOf(1, 0, LEAST));
        bad("dateOf(1, 0, greatest)", x -> x.dateOf(1, 0, GREATEST));
    }

    private static void p31_aroundDay0() {
        isDate(0, -1, 29, 2, 200);
        isDate(1, -1, 28, 2, 200);
        isDate(0, 0, 1, 3, 200);
        isDate(1, 0, 1, 3, 200);
    }

    private static void p31_aroundTheEndOfAYear() {
        for (int c = 0; c < 2; c++) {
            isDate(c, 305, 31, 12, 200);
            isDate(c, 306, 1, 1, 201);
        }
    }

    private static void p31_aroundALeapDay() {
        isDate(1, 73047, 28, 2, 400);
        isDate(1, 73048, 29, 2, 400);
        isDate(1, 73049, 1, 3, 400);
        isDate(0, 36524, 29, 2, 300);
        isDate(1, 36523, 28, 2, 300);
        isDate(1, 36524, 1, 3, 300);
    }

    // ---- promise 32: type

    private static void p32_theLeastByteIs0() {
        due("type(0)", new WhenItWas().type(0), 1);
        bad("type(-1)", x -> x.type(-1));
        bad("type(least)", x -> x.type(LEAST));
    }

    private static void p32_theGreatestByteIs255() {
        due("type(255)", new WhenItWas().type(255), 1);
        bad("type(256)", x -> x.type(256));
        bad("type(greatest)", x -> x.type(GREATEST));
    }

    private static void p32_aByteIsNotCutToFit() {
        bad("type('1' + 256)", x -> x.type('1' + 256));
        bad("type('1' - 256)", x -> x.type('1' - 256));
    }

    private static void p32_thereMayBe40Bytes() {
        WhenItWas x = new WhenItWas();
        for (int n = 1; n <= 40; n++) due("type()", x.type('1'), n);
        due("count(7)", x.count(7), 40);
    }

    private static void p32_a41stByteIsFull() {
        Cases.refused(Scenes::typedFull, "type('1')", x -> x.type('1'), FULL);
    }

    private static void p32_badComesAheadOfFull() {
        Cases.refused(Scenes::typedFull, "type(256)", x -> x.type(256), BAD);
        Cases.refused(Scenes::typedFull, "type(-1)", x -> x.type(-1), BAD);
    }

    // ---- promise 33: wipe

    private static void p33_ofNoBytes() {
        due("wipe()", new WhenItWas().wipe(), 0);
    }

    private static void p33_of40Bytes() {
        WhenItWas x = Scenes.typedFull();
        due("wipe()", x.wipe(), 40);
        due("count(7)", x.count(7), 0);
        due("fault()", x.fault(), 0);
        due("wipe() again", x.wipe(), 0);
        due("type('1')", x.type('1'), 1);
    }

    private static void p33_oldBytesDoNotComeBack() {
        WhenItWas x = Scenes.busy();
        due("wipe()", x.wipe(), 8);
        x.type('1');
        due("fault()", x.fault(), 1);
    }

    // ---- promise 34: fault

    private static void fault(String text, int want) {
        WhenItWas x = new WhenItWas();
        Check.typeAll(x, text);
        due("fault() of " + text, x.fault(), want);
    }

    /** The fault of a date alone, and of the same as the second of two. */
    private static void faultOfBoth(String date, int want) {
        fault(date, want);
        fault("1.1.1a-" + date, want == NONE ? NONE : want + 7);
    }

    private static void p34_ofAnEmptyText() {
        fault("", 0);
    }

    private static void p34_noneOfOneDate() {
        fault("1.1.1b", NONE);
        fault("31.12.600a", NONE);
    }

    private static void p34_noneOfTwoDates() {
        fault("3.11.204a-1.2.205b", NONE);
        fault("31.12.600b-31.12.600a", NONE);
    }

    private static void p34_aTextThatEndsTooSoon() {
        String whole = "12.11.345a-12.11.345a";
        for (int n = 0; n < whole.length(); n++) {
            fault(whole.substring(0, n), n == 10 ? NONE : n);
        }
    }

    private static void p34_theFirstByteWithWhichItCannotGoOn() {
        String whole = "12.11.345a-12.11.345a";
        for (int n = 0; n < whole.length(); n++) {
            fault(whole.substring(0, n) + "x" + whole.substring(n + 1), n);
        }
    }

    private static void p34_aByteBehindTwoDates() {
        fault("1.1.1a-2.2.2a-", 13);
        fault("1.1.1a-2.2.2a1", 13);
        fault("1.1.1a-2.2.2aa", 13);
    }

    private static void p34_aByteOtherThanTheDashBehindOneDate() {
        fault("1.1.1a.", 6);
        fault("1.1.1a1", 6);
        fault("1.1.1ab", 6);
    }

    private static void p34_aTextOf40Bytes() {
        WhenItWas x = Scenes.typedFull();
        due("fault()", x.fault(), 9);
        fault("1111111111111111111111111111111111111111", 2);
        fault("31.12.600b-31.12.600a-------------------", 21);
    }

    private static void p34_aDayHasOneOrTwoFigures() {
        faultOfBoth(".1.1b", 0);
        faultOfBoth("1.1.1b", NONE);
        faultOfBoth("11.1.1b", NONE);
        faultOfBoth("111.1.1b", 2);
    }

    private static void p34_aMonthHasOneOrTwoFigures() {
        faultOfBoth("1..1b", 2);
        faultOfBoth("1.1.1b", NONE);
        faultOfBoth("1.11.1b", NONE);
        faultOfBoth("1.111.1b", 4);
    }

    private static void p34_aYearHasOneToThreeFigures() {
        faultOfBoth("1.1.b", 4);
        faultOfBoth("1.1.1b", NONE);
        faultOfBoth("1.1.11b", NONE);
        faultOfBoth("1.1.111b", NONE);
        faultOfBoth("1.1.1111b", 7);
    }

    private static void p34_figuresAre0To9() {
        faultOfBoth("/.1.1b", 0);
        faultOfBoth(":.1.1b", 0);
        faultOfBoth("1/.1.1b", 1);
        faultOfBoth("1:.1.1b", 1);
        faultOfBoth("19.9.99b", NONE);
        faultOfBoth("20.10.20b", NONE);
    }

    private static void p34_lettersAreAAndB() {
        faultOfBoth("2.1.1a", NONE);
        faultOfBoth("2.1.1b", NONE);
        faultOfBoth("2.1.1`", 5);
        faultOfBoth("2.1.1c", 5);
        faultOfBoth("2.1.1A", 5);
        faultOfBoth("2.1.1B", 5);
    }

    private static void p34_bytesAbove127AreNoOthers() {
        faultOfBoth("2.1.1" + (char) ('a' + 128), 5);
        faultOfBoth("2" + (char) ('.' + 128) + "1.1a", 1);
        faultOfBoth((char) ('2' + 128) + ".1.1a", 0);
        fault("2.1.1a" + (char) ('-' + 128) + "2.1.1a", 6);
        faultOfBoth("" + (char) 255, 0);
        faultOfBoth("" + (char) 0, 0);
    }

    private static void p34_aDay0MayNotBe() {
        faultOfBoth("0.1.2b", 0);
        faultOfBoth("00.1.2b", 0);
        faultOfBoth("01.1.2b", NONE);
    }

    private static void p34_aDayAbove31MayNotBe() {
        faultOfBoth("31.1.2b", NONE);
        faultOfBoth("32.1.2b", 0);
        faultOfBoth("99.1.2b", 0);
    }

    private static void p34_aMonth0MayNotBe() {
        faultOfBoth("1.0.2b", 2);
        faultOfBoth("1.00.2b", 2);
        faultOfBoth("11.00.2b", 3);
        faultOfBoth("1.01.2b", NONE);
    }

    private static void p34_aMonthAbove12MayNotBe() {
        faultOfBoth("1.12.2b", NONE);
        faultOfBoth("1.13.2b", 2);
        faultOfBoth("11.99.2b", 3);
    }

    private static void p34_aYear0MayNotBe() {
        faultOfBoth("1.1.0b", 4);
        faultOfBoth("1.1.00b", 4);
        faultOfBoth("11.11.000b", 6);
        faultOfBoth("1.1.001b", NONE);
    }

    private static void p34_aYearAbove600MayNotBe() {
        faultOfBoth("1.1.600b", NONE);
        faultOfBoth("1.1.601b", 4);
        faultOfBoth("11.11.999b", 6);
    }

    private static void p34_numbersAtOnceAheadOfWhatFollows() {
        faultOfBoth("32x", 0);
        faultOfBoth("0x", 0);
        faultOfBoth("321", 0);
        faultOfBoth("1.13x", 2);
        faultOfBoth("1.131", 2);
        faultOfBoth("1.1.601x", 4);
        faultOfBoth("1.1.6011", 4);
        faultOfBoth("1.1.0x", 4);
    }

    private static void p34_numbersAtOnceAlsoAtTheTextsEnd() {
        faultOfBoth("32", 0);
        faultOfBoth("1.13", 2);
        faultOfBoth("1.1.601", 4);
        faultOfBoth("31", 2);
        faultOfBoth("1.12", 4);
        faultOfBoth("1.1.600", 7);
    }

    private static void p34_aDayThatItsMonthHasNot() {
        for (int month = 1; month <= 12; month++) {
            int length = MONTH_DAYS[month - 1];
            faultOfBoth(length + "." + month + ".203a", NONE);
            if (month != 2) faultOfBoth(length + "." + month + ".204b", NONE);
            if (length < 31) faultOfBoth(length + 1 + "." + month + ".203a", 0);
        }
    }

    private static void p34_aLeapDayByTheLetter() {
        faultOfBoth("29.2.204a", NONE);
        faultOfBoth("29.2.204b", NONE);
        faultOfBoth("30.2.204a", 0);
        faultOfBoth("30.2.204b", 0);
        faultOfBoth("29.2.300a", NONE);
        faultOfBoth("29.2.300b", 0);
        faultOfBoth("29.2.400b", NONE);
    }

    private static void p34_aDayThatItsMonthHasNotBehindTheLetterAlone() {
        faultOfBoth("31.4.203", 8);
        faultOfBoth("31.4.203c", 8);
        faultOfBoth("31.4.203a", 0);
        faultOfBoth("31.4.203ax", 0);
        faultOfBoth("31.4.601", 5);
    }

    private static void p34_aSecondOneOnTheSameDay() {
        fault("5.5.205a-5.5.205a", NONE);
        fault("29.2.200a-28.2.200b", NONE);
        fault("28.2.200b-29.2.200a", NONE);
    }

    private static void p34_aSecondOneADayAhead() {
        fault("5.5.205a-4.5.205a", 9);
        fault("1.1.205a-31.12.204a", 9);
        fault("1.3.200b-28.2.200b", 9);
        fault("1.3.200a-29.2.200a", 9);
    }

    private static void p34_aSecondOneADayAheadByTheOtherCalendar() {
        fault("29.2.200a-27.2.200b", 10);
        fault("1.3.300a-1.3.300b", 9);
        fault("1.3.300a-2.3.300b", NONE);
    }

    private static void p34_aSecondOneADayBehind() {
        fault("5.5.205a-6.5.205a", NONE);
        fault("31.12.204a-1.1.205a", NONE);
    }

    private static void p34_aSecondOneAheadBehindItsLetterAlone() {
        fault("5.5.205a-4.5.205", 16);
        fault("5.5.205a-4.5.205c", 16);
    }

    private static void p34_itChangesNothing() {
        Cases.changesNothing(Scenes::busy, "fault()", x -> x.fault());
        Cases.changesNothing(Scenes::typedFull, "fault()", x -> x.fault());
    }

    // ---- promise 35: said

    private static void p35_noSuchBookIsBad() {
        bad("said(-1, 0)", x -> x.said(-1, 0));
        bad("said(2, 0) of two", x -> x.said(2, 0));
        bad("said(least, 0)", x -> x.said(LEAST, 0));
        bad("said(greatest, 0)", x -> x.said(GREATEST, 0));
        Cases.refused(Scenes::packed, "said(6, 0) of six, forty rows", x -> x.said(6, 0), BAD);
    }

    private static void p35_noSuchThingIsBad() {
        bad("said(0, -1)", x -> x.said(0, -1));
        bad("said(0, 3) of three", x -> x.said(0, 3));
        bad("said(0, least)", x -> x.said(0, LEAST));
        bad("said(0, greatest)", x -> x.said(0, GREATEST));
        Cases.refused(Scenes::packed, "said(0, 12) of twelve, forty rows", x -> x.said(0, 12), BAD);
    }

    private static void p35_aFaultIsNot() {
        Cases.refused(Scenes::typedFull, "said(0, 0)", x -> x.said(0, 0), NOT);
        Cases.refused(() -> Check.with(1, 1), "said(0, 0) of an empty text", x -> x.said(0, 0), NOT);
    }

    private static void p35_badComesAheadOfNot() {
        Cases.refused(Scenes::typedFull, "said(2, 0)", x -> x.said(2, 0), BAD);
        Cases.refused(Scenes::typedFull, "said(0, 3)", x -> x.said(0, 3), BAD);
    }

    private static void p35_a41stRowIsFull() {
        Cases.refused(Scenes::packed, "said(0, 0)", x -> x.said(0, 0), FULL);
    }

    private static void p35_notComesAheadOfFull() {
        Cases.refused(() -> {
            WhenItWas x = Scenes.packed();
            x.type('x');
            return x;
        }, "said(0, 0)", x -> x.said(0, 0), NOT);
    }

    private static void p35_theFortiethRowIs39() {
        WhenItWas x = Check.with(1, 1);
        for (int r = 0; r < 39; r++) x.on(0, 0, 0, 0);
        Check.typeAll(x, "1.3.200a");
        due("said(0, 0)", x.said(0, 0), 39);
        due("said(0, 0) again", x.said(0, 0), FULL);
    }

    private static void said(String text, int from, int until) {
        WhenItWas x = Check.with(12, 6);
        Check.typeAll(x, text);
        due("said(5, 11) of " + text, x.said(5, 11), 0);
        int[] row = {5, 11, NONE, from, until, 0, NONE, 1};
        for (int what = 0; what < 8; what++) due(text + ": about(0, " + what + ")", x.about(0, what), row[what]);
    }

    private static void p35_onTheFirstAlone() {
        said("1.3.200a", 0, 0);
        said("28.2.200b", -1, -1);
    }

    private static void p35_fromTheFirstToTheSecond() {
        said("28.2.200b-1.3.200a", -1, 0);
        said("1.3.200a-1.3.200b", 0, 0);
    }

    private static void p35_fromTheFirstDayOfAllToTheLast() {
        said("1.1.1a-31.12.600a", -72744, 146405);
        said("1.1.1b-31.12.600b", -72742, 146402);
    }

    private static void p35_toldOnTheDayNotAsOfADay() {
        WhenItWas x = Scenes.busy();
        due("said(1, 2)", x.said(1, 2), 4);
        due("about(4, 5)", x.about(4, 5), 7);
        due("about(4, 7)", x.about(4, 7), 0);
    }

    private static void p35_theTextStays() {
        WhenItWas x = Scenes.busy();
        due("said(0, 0)", x.said(0, 0), 4);
        due("count(7)", x.count(7), 8);
        due("said(0, 0) again", x.said(0, 0), 5);
        due("about(5, 3)", x.about(5, 3), 0);
    }
}
