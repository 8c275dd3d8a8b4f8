/** Counts the answers that are not as due. */
final class Check {
    private final String test;
    private int wrong = 0;
    private int asked = 0;

    Check(String test) {
        this.test = test;
    }

    void due(String call, long got, long want) {
        asked++;
        if (got != want) {
            wrong++;
            if (wrong <= 50) {
                System.out.println(test + ": " + call + " answered " + got + ", due is " + want);
            }
        }
    }

    boolean isClean() {
        return wrong == 0;
    }

    int asked() {
        return asked;
    }

    void end() {
        System.out.println(test + ": " + asked + " answers, " + wrong + " not as due");
        if (wrong != 0 || asked == 0) {
            System.exit(1);
        }
    }

    static long asLong(int refusal) {
        return Long.MIN_VALUE - refusal;
    }

    /** An object with so many things, and books whose clocks are right. */
    static WhenItWas with(int things, int books) {
        WhenItWas x = new WhenItWas();
        for (int t = 0; t < things; t++) x.thing();
        for (int b = 0; b < books; b++) x.book(0, 0);
        return x;
    }

    /** A new sheet with just these items. */
    static void fill(WhenItWas x, int s, int type, int... items) {
        x.sheet(s, type, items.length);
        for (int i = 0; i < items.length; i++) x.put(s, type, i, items[i]);
    }

    /** Types a text into the dates, which are wiped before. */
    static void typeAll(WhenItWas x, String text) {
        x.wipe();
        for (int i = 0; i < text.length(); i++) {
            x.type(text.charAt(i));
        }
    }
}
