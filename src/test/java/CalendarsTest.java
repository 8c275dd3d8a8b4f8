/** Promises 30 to 35: calendars and dates as texts. */
public final class CalendarsTest {
    private static final Check CHECK = new Check("CalendarsTest");

    public static void main(String[] args) {
        edges();
        everyDay(0);
        everyDay(1);
        refusedDates();
        typing();
        faultsOfForm();
        wipedBytesAreGone();
        faultsOfNumbers();
        faultsBehindTheLetter();
        saying();
        CHECK.end();
    }

    private static void due(String call, long got, long want) {
        CHECK.due(call, got, want);
    }

    private static void edges() {
        WhenItWas x = new WhenItWas();
        due("30: 1.3.200a", x.dayOf(0, 1, 3, 200), 0);
        due("30: 1.3.200b", x.dayOf(1, 1, 3, 200), 0);
        due("30: 29.2.200a", x.dayOf(0, 29, 2, 200), -1);
        due("30: 29.2.200b", x.dayOf(1, 29, 2, 200), -300000);
        due("30: 28.2.200b", x.dayOf(1, 28, 2, 200), -1);
        due("30: 1.1.1b", x.dayOf(1, 1, 1, 1), -72742);
        due("30: 29.2.400b", x.dayOf(1, 29, 2, 400), 73048);
        int[][] wrong = {{-1, 1, 1, 1}, {2, 1, 1, 1}, {0, 0, 1, 1}, {0, 32, 1, 1}, {0, 1, 0, 1}, {0, 1, 13, 1},
            {0, 1, 1, 0}, {0, 1, 1, 601}, {0, 31, 4, 4}, {0, 30, 2, 4}, {1, 29, 2, 3}, {1, -1, 2, 3},
            {Integer.MIN_VALUE, 1, 1, 1}, {0, 1, Integer.MAX_VALUE, 1}, {0, 1, Integer.MIN_VALUE, 1}, {0, 1, 1, -4}};
        for (int[] w : wrong) due("30: a wrong date", x.dayOf(w[0], w[1], w[2], w[3]), -300000);
    }

    /** Walks through all days of all years by the document's lengths of months. */
    private static void everyDay(int calendar) {
        WhenItWas x = new WhenItWas();
        int[] lengths = {31, 28, 31, 30, 31, 30, 31, 31, 30, 31, 30, 31};
        int number = x.dayOf(calendar, 1, 1, 1);
        due("31: the day ahead of all", x.dateOf(calendar, number - 1, 0), WhenItWas.BAD);
        for (int year = 1; year <= 600; year++) {
            // An object is used for 512 calls at most.
            x = new WhenItWas();
            boolean leap = year % 4 == 0 && (calendar == 0 || year % 100 != 0 || year % 400 == 0);
            for (int month = 1; month <= 12; month++) {
                int length = lengths[month - 1] + (leap && month == 2 ? 1 : 0);
                for (int day = 1; day <= length; day++) {
                    if (day < 3 || day > 27) {
                        due("30: a day", x.dayOf(calendar, day, month, year), number);
                        due("31: its day", x.dateOf(calendar, number, 0), day);
                        due("31: its month", x.dateOf(calendar, number, 1), month);
                        due("31: its year", x.dateOf(calendar, number, 2), year);
                    }
                    if (day == 1 && month == 3 && year == 200) due("30: day 0", number, 0);
                    number++;
                }
                due("30: no such day", x.dayOf(calendar, length + 1, month, year), -300000);
            }
        }
        due("31: the day behind all", x.dateOf(calendar, number, 2), WhenItWas.BAD);
    }

    private static void refusedDates() {
        WhenItWas x = new WhenItWas();
        due("31: calendar 2", x.dateOf(2, 0, 0), WhenItWas.BAD);
        due("31: calendar -1", x.dateOf(-1, 0, 0), WhenItWas.BAD);
        due("31: what 3", x.dateOf(0, 0, 3), WhenItWas.BAD);
        due("31: what -1", x.dateOf(0, 0, -1), WhenItWas.BAD);
        due("31: the least int", x.dateOf(1, Integer.MIN_VALUE, 0), WhenItWas.BAD);
        due("31: the greatest int", x.dateOf(1, Integer.MAX_VALUE, 0), WhenItWas.BAD);
    }

    private static void typing() {
        WhenItWas x = new WhenItWas();
        due("32: -1", x.type(-1), WhenItWas.BAD);
        due("32: 256", x.type(256), WhenItWas.BAD);
        for (int n = 1; n <= 40; n++) due("32: how many", x.type(n == 1 ? 0 : 255), n);
        due("32: a 41st", x.type(49), WhenItWas.FULL);
        due("32: wrong comes first", x.type(256), WhenItWas.BAD);
        due("42: bytes", x.count(7), 40);
        due("33: wiped", x.wipe(), 40);
        due("33: wiped again", x.wipe(), 0);
        due("42: no bytes", x.count(7), 0);
        due("32: the first again", x.type(49), 1);
    }

    private static void fault(String text, int want) {
        WhenItWas x = new WhenItWas();
        Check.typeAll(x, text);
        due("34: fault() of " + text, x.fault(), want);
    }

    private static void faultsOfForm() {
        fault("", 0);
        fault("1", 1);
        fault("12", 2);
        fault("1.", 2);
        fault("1.1", 3);
        fault("1.1.", 4);
        fault("1.1.1", 5);
        fault("1.1.1a", WhenItWas.NONE);
        fault("1.1.1a-", 7);
        fault("1.1.1a-1.1.1b", WhenItWas.NONE);
        fault("1.1.1b-1.1.1a", 7);
        fault("1.1.200a-1.1.200b", WhenItWas.NONE);
        fault("1.1.1a-1.1.1a", WhenItWas.NONE);
        fault("1.1.1a-1.1.1a-1.1.1a", 13);
        fault("1.1.1a 1.1.1a", 6);
        fault("1.1.1a-1.1.1ax", 13);
        fault("31.12.600a-31.12.600a", WhenItWas.NONE);
        fault("3.11.204a-1.2.205b", WhenItWas.NONE);
        fault("01.02.003a", WhenItWas.NONE);
        fault("001.1.1a", 0);
        fault("011.1.1a", 2);
        fault("1.001.1a", 2);
        fault("1.011.1a", 4);
        fault("1.1.0001a", 4);
        fault("1.1.0011a", 7);
        fault("x", 0);
        fault("-1.1.1a", 0);
        fault(".1.1a", 0);
        fault("1..1a", 2);
        fault("1.1.a", 4);
        fault("1-1.1a", 1);
        fault("1.1-1a", 3);
        fault("1.1.1A", 5);
        fault("1.1.1c", 5);
        fault("1.1.1`", 5);
        fault("1.1.1.", 5);
        fault("1.1.1a--1.1.1a", 7);
        fault(" 1.1.1a", 0);
        fault("1.1.1a\u0000", 6);
        fault("1/1/1a", 1);
        fault(":.1.1a", 0);
        fault("/.1.1a", 0);
    }

    private static void wipedBytesAreGone() {
        WhenItWas x = new WhenItWas();
        Check.typeAll(x, "1.1.1a-2.1.1a");
        due("34: whole", x.fault(), WhenItWas.NONE);
        Check.typeAll(x, "1.1.1");
        due("34: the old letter is gone", x.fault(), 5);
        Check.typeAll(x, "1.1.1a");
        due("34: the old dash is gone", x.fault(), WhenItWas.NONE);
        x.wipe();
        due("34: empty", x.fault(), 0);
    }

    private static void faultsOfNumbers() {
        fault("0.1.1a", 0);
        fault("00.1.1a", 0);
        fault("32.1.1a", 0);
        fault("32x", 0);
        fault("32", 0);
        fault("0", 0);
        fault("99999", 0);
        fault("123", 2);
        fault("1.0.1a", 2);
        fault("1.13.1a", 2);
        fault("10.13", 3);
        fault("1.1.0a", 4);
        fault("1.1.601a", 4);
        fault("1.1.6010a", 4);
        fault("1.1.600a", WhenItWas.NONE);
        fault("10.10.601z", 6);
        fault("1.1.1a-0.1.1a", 7);
        fault("1.1.1a-1.0.1a", 9);
        fault("1.1.1a-1.1.0a", 11);
        fault("1.1.1a-32", 7);
    }

    private static void faultsBehindTheLetter() {
        fault("31.4.4a", 0);
        fault("31.4.4c", 6);
        fault("31.4.4", 6);
        fault("30.2.4b", 0);
        fault("29.2.100a", WhenItWas.NONE);
        fault("29.2.100b", 0);
        fault("29.2.400b", WhenItWas.NONE);
        fault("29.2.3a", 0);
        fault("31.4.4ax", 0);
        fault("31.4.4a-0.1.1a", 0);
        fault("1.1.5a-31.4.4a", 7);
        fault("2.1.5a-1.1.5a", 7);
        fault("2.1.5a-1.1.5ax", 7);
        fault("2.1.5a-1.1.5", 12);
        fault("12.11.300b-12.11.300a", WhenItWas.NONE);
        fault("12.11.300a-12.11.300b", 11);
    }

    private static void saying() {
        WhenItWas x = new WhenItWas();
        x.thing();
        x.thing();
        x.book(0, 0);
        due("35: no such book", x.said(1, 0), WhenItWas.BAD);
        due("35: no such thing", x.said(0, 2), WhenItWas.BAD);
        due("35: book -1", x.said(-1, 0), WhenItWas.BAD);
        due("35: empty", x.said(0, 0), WhenItWas.NOT);
        Check.typeAll(x, "1.3.200a");
        x.pass(2);
        due("35: on one day", x.said(0, 1), 0);
        int[] want = {0, 1, WhenItWas.NONE, 0, 0, 2, WhenItWas.NONE, 1};
        for (int what = 0; what < 8; what++) due("35: about(0, " + what + ")", x.about(0, what), want[what]);
        due("35: the text stays", x.count(7), 8);
        x.type('-');
        due("35: a fault", x.said(0, 0), WhenItWas.NOT);
        Check.typeAll(x, "1.3.200a-1.3.300b");
        due("35: from one to another", x.said(0, 0), 1);
        due("35: from", x.about(1, 3), 0);
        due("35: to", x.about(1, 4), 36524);
        Check.typeAll(x, "28.2.200b");
        due("35: ahead of day 0", x.said(0, 0), 2);
        due("35: ahead of day 0, x", x.about(2, 3), -1);
        due("35: ahead of day 0, y", x.about(2, 4), -1);
        due("35: ON ones", x.count(5), 3);
    }
}
