/** What the tests by hand have in common: due answers, due STATUS, and texts put onto the tape. */
final class Check {
    /** Four places of which d is cut off, two slates, two callers, three cries, two calls. */
    static final String MARKET = "odds 8;place a;place b;place c;place d;way a b long 2 loses 1;way b c long 1 loses 2;"
        + "way a c long 3;slate s at a;slate t at c;caller p at a;caller q at b;cry p 9 5;cry p 7;cry q 6 3 2;"
        + "call p 0 at 0;call q 0 at 1;";

    private static int asked;
    private static int wrong;

    private Check() { }

    static void due(String what, long got, long want) {
        asked++;
        if (got != want) {
            wrong++;
            System.out.println(what + " answered " + got + ", due is " + want);
        }
    }

    static void due(String what, boolean got, boolean want) {
        due(what, got ? 1 : 0, want ? 1 : 0);
    }

    /** A call that gave NONE: its STATUS must be such. */
    static void refused(MurmurHall m, String what, long got, int status) {
        due(what, got, MurmurHall.NONE);
        due(what + ", its status", m.status(), status);
    }

    static void refused(MurmurHall m, String what, boolean got, int status) {
        due(what, got, false);
        due(what + ", its status", m.status(), status);
    }

    /** A call that was done: its answer, and STATUS 0. */
    static void done(MurmurHall m, String what, long got, long want) {
        due(what, got, want);
        due(what + ", its status", m.status(), 0);
    }

    static void done(MurmurHall m, String what, boolean got) {
        done(m, what, got ? 1 : 0, 1);
    }

    static void fraction(MurmurHall m, String what, long top, long bottom) {
        due(what + ", its top", m.top(), top);
        due(what + ", its bottom", m.bottom(), bottom);
    }

    /** Puts a text onto the tape, with as many 0s behind it as the last feed needs. */
    static void feed(MurmurHall m, String text) {
        for (int at = 0; at < text.length(); at += 20) {
            int[] five = new int[5];
            for (int i = 0; i < 20; i++) {
                int sign = at + i < text.length() ? text.charAt(at + i) : 0;
                five[i / 4] = five[i / 4] << 8 | sign;
            }
            m.feed(five[0], five[1], five[2], five[3], five[4]);
        }
    }

    static int hall(MurmurHall m, String text) {
        feed(m, text);
        return m.hall(text.length());
    }

    static int mornings(MurmurHall m, String text) {
        feed(m, text);
        return m.mornings(text.length());
    }

    static MurmurHall market() {
        MurmurHall m = new MurmurHall();
        due("hall of the market", hall(m, MARKET), 2);
        return m;
    }

    /** The text must have such a FAULT at such a place as a HALL. */
    static void hallFault(String text, int kind, int place) {
        MurmurHall m = new MurmurHall();
        refused(m, "hall [" + text + "]", hall(m, text), 9);
        due("fault(0) of [" + text + "]", m.fault(0), kind);
        due("fault(1) of [" + text + "]", m.fault(1), place);
    }

    /** The text must have such a FAULT at such a place as MORNINGS of the market. */
    static void morningsFault(String text, int kind, int place) {
        MurmurHall m = market();
        refused(m, "mornings [" + text + "]", mornings(m, text), 9);
        due("fault(0) of [" + text + "]", m.fault(0), kind);
        due("fault(1) of [" + text + "]", m.fault(1), place);
    }

    static void end() {
        System.out.println(wrong == 0 ? asked + " answers are as due" : wrong + " of " + asked + " answers are not as due");
        if (wrong != 0) System.exit(1);
    }
}
