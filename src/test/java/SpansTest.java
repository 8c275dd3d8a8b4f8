/** Promises 12 to 22: what can be, spans, what leads to them and hangs on rows. */
public final class SpansTest {
    private static final Check CHECK = new Check("SpansTest");

    public static void main(String[] args) {
        canBe();
        circles();
        longestWay();
        spans();
        clocks();
        between();
        led();
        changed();
        changedMostOften();
        changedByDoubt();
        fits();
        fitsByEachRow();
        room();
        kin();
        kinOfLikes();
        hangs();
        CHECK.end();
    }

    private static void due(String call, long got, long want) {
        CHECK.due(call, got, want);
    }

    private static void canBe() {
        WhenItWas x = Check.with(2, 1);
        due("12: none of no rows", x.can(0), 1);
        due("12: a row that there is not", x.can(1), WhenItWas.BAD);
        x.on(0, 0, 1, 1);
        x.on(0, 0, 2, 2);
        x.on(0, 1, 2, 2);
        due("12: can(0)", x.can(0), 1);
        due("12: can(1)", x.can(1), 1);
        due("12: can(3)", x.can(3), 0);
        due("12: can(5)", x.can(5), 1);
        due("12: can(7)", x.can(7), 0);
        due("12: can(8)", x.can(8), WhenItWas.BAD);
        due("12: can(9)", x.can(9), WhenItWas.BAD);
        due("12: the least long", x.can(Long.MIN_VALUE), WhenItWas.BAD);
        due("13: all()", x.all(), 0);
        x.pass(1);
        x.takeBack(1);
        due("12: one is not known", x.can(3), WhenItWas.NOT);
        due("12: wrong comes first", x.can(11), WhenItWas.BAD);
        due("13: all() then", x.all(), 1);
        x.asOf(0);
        due("13: all() as of 0", x.all(), 0);
        WhenItWas beyond = Check.with(1, 0);
        beyond.book(-5, -1);
        beyond.on(0, 0, 200000, 200000);
        due("12: a row by which the day would be beyond all days", beyond.can(1), 0);
        due("12: without it", beyond.can(0), 1);
        due("12: can(3) as of 0", x.can(3), 0);
    }

    private static void circles() {
        WhenItWas x = Check.with(12, 1);
        for (int t = 1; t < 12; t++) x.apart(0, t, t - 1, 0, 0);
        due("13: a chain", x.all(), 1);
        x.apart(0, 0, 11, 0, 0);
        due("13: a circle of 0", x.all(), 1);
        x.apart(0, 0, 11, 1, 1);
        due("13: a circle that is off by 1", x.all(), 0);
        WhenItWas far = Check.with(4, 1);
        far.apart(0, 1, 0, 100000, 100000);
        far.apart(0, 2, 1, 100000, 100000);
        far.apart(0, 3, 2, 100000, 100000);
        due("13: 300000 days are within all days", far.all(), 1);
        due("14: its first", far.span(0, 1), -100000);
        far.thing();
        far.apart(0, 4, 3, 100000, 100000);
        due("13: 400000 too", far.all(), 1);
        due("14: then the days are told", far.span(2, 0), 0);
        due("14: then the days are told", far.span(2, 1), 0);
        far.thing();
        far.apart(0, 5, 4, 1, 1);
        due("13: one more is too far", far.all(), 0);
    }

    /** The longest way that there is, through all clocks and things, with the rows told from its end on. */
    private static void longestWay() {
        WhenItWas x = Check.with(12, 1);
        for (int b = 1; b < 6; b++) x.book(-1000, 1000);
        for (int t = 11; t > 5; t--) x.apart(0, t, t - 1, 1, 1);
        for (int b = 5; b > 0; b--) {
            x.on(b, b, 10 * b, 10 * b);
            x.on(b, b - 1, 10 * b, 10 * b);
        }
        x.on(0, 0, 7, 7);
        due("13: the longest way", x.all(), 1);
        due("14: its end, least", x.span(11, 0), 13);
        due("14: its end, greatest", x.span(11, 1), 13);
        due("15: a clock on it", x.clock(5, 1), 43);
        due("16: from end to end", x.between(11, 0, 1), 6);
        due("17: all its steps", x.led(11, 1), 17);
        due("17: all its steps", x.led(11, 0), 17);
        due("22: all its rows", x.hangs(11), (1L << 17) - 1);
    }

    private static void spans() {
        WhenItWas x = Check.with(2, 1);
        due("14: no such thing", x.span(2, 0), -300000);
        due("14: thing -1", x.span(-1, 0), -300000);
        due("14: end 2", x.span(0, 2), -300000);
        due("14: end -1", x.span(0, -1), -300000);
        due("14: nothing told, least", x.span(0, 0), -200000);
        due("14: nothing told, greatest", x.span(0, 1), 200000);
        x.book(-3, 8);
        x.on(1, 0, 100, 100);
        due("14: by a clock that is off, least", x.span(0, 0), 92);
        due("14: by a clock that is off, greatest", x.span(0, 1), 103);
        x.on(0, 0, 95, 99);
        due("14: by both, least", x.span(0, 0), 95);
        due("14: by both, greatest", x.span(0, 1), 99);
        x.on(1, 1, 50, 51);
        due("14: a thing by the clock that is narrowed, least", x.span(1, 0), 45);
        due("14: a thing by the clock that is narrowed, greatest", x.span(1, 1), 50);
        x.on(0, 0, 0, 1);
        due("14: not all can be", x.span(1, 1), -300001);
        due("14: wrong comes first", x.span(2, 1), -300000);
    }

    private static void clocks() {
        WhenItWas x = Check.with(1, 1);
        x.book(-20, 30);
        due("15: no such book", x.clock(2, 0), -300000);
        due("15: book -1", x.clock(-1, 0), -300000);
        due("15: end 2", x.clock(0, 2), -300000);
        due("15: least as told", x.clock(1, 0), -20);
        due("15: greatest as told", x.clock(1, 1), 30);
        x.on(0, 0, 10, 12);
        x.on(1, 0, 20, 25);
        due("15: least", x.clock(1, 0), 8);
        due("15: greatest", x.clock(1, 1), 15);
        x.on(1, 0, 45, 45);
        due("15: not all can be", x.clock(0, 0), -300001);
    }

    private static void between() {
        WhenItWas x = Check.with(4, 1);
        due("16: no such thing", x.between(4, 0, 0), -500000);
        due("16: no such other", x.between(0, 4, 0), -500000);
        due("16: end 2", x.between(0, 1, 2), -500000);
        due("16: all days, least", x.between(0, 1, 0), -400000);
        due("16: all days, greatest", x.between(0, 1, 1), 400000);
        due("16: one with itself, least", x.between(1, 1, 0), -500000);
        due("16: one with itself, greatest", x.between(1, 1, 1), -500000);
        x.book(-1000, 1000);
        x.on(1, 0, 50, 55);
        x.on(1, 1, 70, 70);
        due("16: by one clock, least", x.between(1, 0, 0), 15);
        due("16: by one clock, greatest", x.between(1, 0, 1), 20);
        due("16: the other way, least", x.between(0, 1, 0), -20);
        due("16: the other way, greatest", x.between(0, 1, 1), -15);
        x.on(0, 2, 190000, 190010);
        due("16: by days, least", x.between(2, 3, 0), -10000);
        due("16: by days, greatest", x.between(2, 3, 1), 390010);
        x.on(0, 2, 0, 0);
        due("16: not all can be", x.between(0, 1, 0), -500001);
        due("16: not all can be, itself: wrong first", x.between(1, 1, 0), -500000);
    }

    private static void led() {
        WhenItWas x = Check.with(4, 1);
        due("17: no such thing", x.led(4, 0), WhenItWas.BAD);
        due("17: end 2", x.led(0, 2), WhenItWas.BAD);
        due("17: end -1", x.led(0, -1), WhenItWas.BAD);
        due("17: an end of all days", x.led(0, 0), 0);
        x.on(0, 0, 10, 20);
        x.apart(0, 1, 0, 1, 5);
        x.apart(0, 2, 1, 1, 5);
        due("17: one row", x.led(0, 0), 1);
        due("17: two rows", x.led(1, 1), 2);
        due("17: three rows", x.led(2, 0), 3);
        x.on(0, 2, 0, 30);
        due("17: the greatest by one row now", x.led(2, 1), 1);
        due("17: the least still by three", x.led(2, 0), 3);
        x.on(0, 2, 12, 100);
        due("17: the least by one row as well", x.led(2, 0), 1);
        x.on(0, 0, -200000, 200000);
        x.apart(0, 3, 0, 0, 100000);
        due("17: a step from what days may be", x.led(3, 0), 2);
        x.book(-7, 7);
        x.on(1, 3, 15, 300);
        due("17: a step from what a clock may be", x.led(3, 1), 1);
        x.on(0, 0, 0, 1);
        due("17: not all can be", x.led(0, 0), WhenItWas.NOT);
        WhenItWas y = Check.with(3, 1);
        y.apart(0, 1, 0, 1, 5);
        y.apart(0, 2, 1, 1, 5);
        y.on(0, 2, 50, 60);
        due("17: against the rows' way, least", y.led(0, 0), 3);
        due("17: against the rows' way, greatest", y.led(0, 1), 3);
        due("17: half of the way", y.led(1, 1), 2);
    }

    private static void changed() {
        WhenItWas x = Check.with(2, 1);
        x.on(0, 0, 0, 100);
        x.pass(3);
        x.on(0, 0, 10, 100);
        x.pass(2);
        x.on(0, 0, 0, 200);
        x.pass(2);
        x.on(0, 1, 0, 200);
        x.pass(10);
        x.takeBack(1);
        x.pass(5);
        due("18: no such thing", x.changed(2, 0), WhenItWas.BAD);
        due("18: i below 0", x.changed(0, -1), WhenItWas.BAD);
        due("18: the first", x.changed(0, 0), 3);
        due("18: the second", x.changed(0, 1), 17);
        due("18: no third", x.changed(0, 2), WhenItWas.NONE);
        due("18: a great i", x.changed(0, Integer.MAX_VALUE), WhenItWas.NONE);
        due("18: of the other", x.changed(1, 0), 7);
        due("18: of the other no more", x.changed(1, 1), WhenItWas.NONE);
        x.asOf(4);
        due("18: as of does not matter", x.changed(0, 1), 17);
    }

    /** As many days of change as there can be: each row told on a day of its own, and taken back so. */
    private static void changedMostOften() {
        WhenItWas x = Check.with(1, 1);
        for (int r = 0; r < 40; r++) {
            x.pass(1);
            x.on(0, 0, r, 100);
        }
        for (int r = 39; r >= 0; r--) {
            x.pass(1);
            x.takeBack(r);
        }
        for (int i = 0; i < 80; i++) due("18: changed(0, " + i + ")", x.changed(0, i), i + 1);
        due("18: no more than 80", x.changed(0, 80), WhenItWas.NONE);
    }

    private static void changedByDoubt() {
        WhenItWas x = Check.with(1, 1);
        x.thing();
        x.on(0, 0, 5, 5);
        x.pass(1);
        x.on(0, 0, 6, 6);
        x.pass(1);
        x.on(0, 0, 7, 7);
        x.pass(1);
        x.takeBack(0);
        x.takeBack(2);
        x.on(0, 1, 7, 7);
        x.pass(1);
        x.takeBack(1);
        due("18: then not all can be", x.changed(0, 0), 1);
        due("18: another doubt is no change", x.changed(0, 1), 3);
        due("18: taken back", x.changed(0, 2), 4);
        due("18: no more", x.changed(0, 3), WhenItWas.NONE);
        due("18: not all can be, for each thing", x.changed(1, 0), 1);
        due("18: and again they can", x.changed(1, 1), 3);
        due("18: none for it on 4", x.changed(1, 2), WhenItWas.NONE);
    }

    private static void fits() {
        WhenItWas x = Check.with(2, 1);
        due("19: no such sheet", x.fits(4), WhenItWas.BAD);
        due("19: sheet -1", x.fits(-1), WhenItWas.BAD);
        due("19: a lost one", x.fits(0), -11);
        x.sheet(0, 2, 1);
        due("19: too few items", x.fits(0), -12);
        due("19: the finding", x.count(8), 2);
        Check.fill(x, 0, 2, 5, 9, Integer.MAX_VALUE);
        due("19: items beyond the things do not matter", x.fits(0), 1);
        Check.fill(x, 0, 2, 200001, 0);
        due("19: no day", x.fits(0), 0);
        Check.fill(x, 0, 2, 0, -200001);
        due("19: no day", x.fits(0), 0);
        Check.fill(x, 0, 2, Integer.MIN_VALUE, Integer.MAX_VALUE);
        due("19: no days at all", x.fits(0), 0);
        Check.fill(x, 0, 2, 200000, -200000);
        due("19: the last days", x.fits(0), 1);
        x.book(2, 4);
        x.on(1, 0, 10, 10);
        x.on(1, 1, 20, 20);
        Check.fill(x, 0, 0, 7, 17);
        due("19: off by 3 both", x.fits(0), 1);
        Check.fill(x, 0, 0, 7, 16);
        due("19: not off by 3 and by 4", x.fits(0), 0);
        Check.fill(x, 0, 0, 9, 19);
        due("19: nor by 1", x.fits(0), 0);
        x.takeBack(1);
        Check.fill(x, 0, 0, 7, 16);
        due("19: taken back", x.fits(0), 1);
        x.apart(0, 1, 0, 10, 12);
        due("19: apart by 9", x.fits(0), 0);
        Check.fill(x, 0, 0, 7, 17);
        due("19: apart by 10", x.fits(0), 1);
        Check.fill(x, 0, 0, 7, 20);
        due("19: apart by 13", x.fits(0), 0);
        WhenItWas none = new WhenItWas();
        none.sheet(3, 0, 0);
        due("19: of no things", none.fits(3), 1);
    }

    private static void fitsByEachRow() {
        WhenItWas x = Check.with(3, 1);
        x.apart(0, 1, 0, 10, 12);
        Check.fill(x, 0, 0, 1, 11, 0);
        due("19: the least apart", x.fits(0), 1);
        Check.fill(x, 0, 0, 1, 13, 0);
        due("19: the greatest apart", x.fits(0), 1);
        Check.fill(x, 0, 0, 1, 14, 0);
        due("19: the first row counts", x.fits(0), 0);
        Check.fill(x, 0, 0, 1, 10, 0);
        due("19: one too few", x.fits(0), 0);
        WhenItWas y = Check.with(1, 1);
        y.on(0, 0, 5, 5);
        Check.fill(y, 0, 0, 6);
        due("19: the first book counts", y.fits(0), 0);
        due("20: the first book counts", y.room(0, 0), WhenItWas.NOT);
        Check.fill(y, 0, 0, 5);
        due("19: the first book is right", y.fits(0), 1);
    }

    private static void room() {
        WhenItWas x = Check.with(2, 1);
        x.book(-5, 5);
        x.on(1, 0, 10, 13);
        x.on(1, 1, 20, 24);
        due("20: no such sheet", x.room(4, 0), WhenItWas.BAD);
        due("20: no such book", x.room(0, 2), WhenItWas.BAD);
        due("20: book -1", x.room(0, -1), WhenItWas.BAD);
        due("20: a lost one", x.room(0, 0), -11);
        x.sheet(0, 0, 1);
        due("20: too few items", x.room(0, 0), -12);
        due("20: wrong comes first", x.room(0, 2), WhenItWas.BAD);
        Check.fill(x, 0, 0, 10, 20);
        due("20: 0 to 3", x.room(0, 1), 4);
        due("20: of a book that says nothing", x.room(0, 0), 1);
        Check.fill(x, 0, 0, 8, 20);
        due("20: 2 to 4", x.room(0, 1), 3);
        Check.fill(x, 0, 0, 6, 20);
        due("20: only 4", x.room(0, 1), 1);
        Check.fill(x, 0, 0, 5, 20);
        due("20: not fitting", x.room(0, 1), WhenItWas.NOT);
        due("20: not fitting, for any book", x.room(0, 0), WhenItWas.NOT);
        Check.fill(x, 0, 0, 15, 25);
        due("20: -5 to -2, -5 to -1", x.room(0, 1), 4);
        Check.fill(x, 0, 0, 17, 27);
        due("20: only -5 and -4", x.room(0, 1), 2);
    }

    private static void kin() {
        WhenItWas x = Check.with(4, 1);
        x.book(0, 0);
        due("21: no such book", x.kin(0, 2, 0), -500000);
        due("21: book -1", x.kin(-1, 0, 0), -500000);
        due("21: one with itself", x.kin(1, 1, 0), -500000);
        due("21: what 3", x.kin(0, 1, 3), -500000);
        due("21: what -1", x.kin(0, 1, -1), -500000);
        due("21: none", x.kin(0, 1, 0), 0);
        due("21: the most of none", x.kin(0, 1, 1), 0);
        due("21: no number", x.kin(0, 1, 2), WhenItWas.NOT);
        x.on(0, 0, 10, 10);
        due("21: one says it alone", x.kin(0, 1, 0), 0);
        x.on(1, 0, 13, 14);
        due("21: not exactly", x.kin(0, 1, 0), 0);
        x.on(1, 0, 13, 13);
        due("21: the latest is exact", x.kin(0, 1, 0), 1);
        due("21: second less first", x.kin(0, 1, 2), 3);
        due("21: the other way", x.kin(1, 0, 2), -3);
        x.apart(1, 0, 1, 5, 5);
        due("21: apart does not matter", x.kin(0, 1, 2), 3);
        x.on(1, 0, 15, 15);
        due("21: the latest", x.kin(0, 1, 2), 5);
        x.pass(1);
        x.takeBack(4);
        due("21: the latest known", x.kin(0, 1, 2), 3);
        x.on(0, 0, 10, 11);
        due("21: the latest is not exact", x.kin(0, 1, 0), 0);
        x.asOf(0);
        due("21: as of 0", x.kin(0, 1, 2), 5);
    }

    private static void kinOfLikes() {
        WhenItWas x = Check.with(7, 1);
        x.book(0, 0);
        int[] differences = {4, -2, 9, -2, 4, 7, -100};
        for (int t = 0; t < 7; t++) {
            x.on(0, t, 50, 50);
            x.on(1, t, 50 + differences[t], 50 + differences[t]);
        }
        due("21: all seven", x.kin(0, 1, 0), 7);
        due("21: the most", x.kin(0, 1, 1), 2);
        due("21: of like ones the least", x.kin(0, 1, 2), -2);
        due("21: of like ones the least, turned", x.kin(1, 0, 2), -4);
        x.on(1, 2, 54, 54);
        due("21: three are more", x.kin(0, 1, 1), 3);
        due("21: then that number", x.kin(0, 1, 2), 4);
        WhenItWas y = Check.with(12, 2);
        for (int t = 0; t < 12; t++) {
            y.on(1, t, t, t);
            y.on(0, t, 2 * t, 2 * t);
        }
        due("21: all twelve", y.kin(0, 1, 0), 12);
        due("21: each once", y.kin(0, 1, 1), 1);
        due("21: the least of twelve", y.kin(0, 1, 2), -11);
    }

    private static void hangs() {
        WhenItWas x = Check.with(3, 1);
        due("22: no such thing", x.hangs(3), Check.asLong(WhenItWas.BAD));
        due("22: thing -1", x.hangs(-1), Check.asLong(WhenItWas.BAD));
        due("22: no rows", x.hangs(0), 0);
        WhenItWas even = Check.with(1, 1);
        even.on(0, 0, -5, 5);
        due("22: both ends by as much", even.hangs(0), 1);
        x.on(0, 0, 10, 20);
        x.on(0, 0, 10, 30);
        due("22: the greatest hangs on the first alone", x.hangs(0), 1);
        x.on(0, 0, 0, 20);
        due("22: either would do", x.hangs(0), 0);
        x.apart(0, 1, 0, 5, 5);
        due("22: by a chain", x.hangs(1), 8);
        due("22: not the other way", x.hangs(0), 0);
        due("22: nor a thing apart", x.hangs(2), 0);
        x.pass(1);
        x.takeBack(2);
        x.takeBack(1);
        due("22: both on the first", x.hangs(0), 1);
        due("22: chain and first", x.hangs(1), 9);
        x.on(0, 1, 100, 100);
        due("22: not all can be", x.hangs(2), Check.asLong(WhenItWas.NOT));
        due("22: wrong comes first", x.hangs(3), Check.asLong(WhenItWas.BAD));
    }
}
