import java.util.function.Supplier;
import java.util.function.ToLongFunction;

/** What the tests by hand have in common: due answers, due STATUS, and texts put onto the tape. */
final class Check {
    /** Four places of which d is cut off, two slates, two callers, three cries, two calls. */
    static final String MARKET = "odds 8;place a;place b;place c;place d;way a b long 2 loses 1;way b c long 1 loses 2;"
        + "way a c long 3;slate s at a;slate t at c;caller p at a;caller q at b;cry p 9 5;cry p 7;cry q 6 3 2;"
        + "call p 0 at 0;call q 0 at 1;";

    private static int asked;
    private static int wrong;

    private Check() { }

    static int wrong() { return wrong; }

    static void broken(String what) {
        wrong++;
        System.out.println(what);
    }

    static void due(String what, long got, long want) {
        asked++;
        if (got != want) {
            wrong++;
            System.out.println(what + " answered " + got + ", due is " + want);
        }
    }

    static void due(String what, boolean got, boolean want) {
        due(what, got ? 1 : 0, want ? 1 : 0);
    }

    /** A call that gave NONE: its STATUS must be such. */
    static void refused(MurmurHall m, String what, long got, int status) {
        due(what, got, MurmurHall.NONE);
        due(what + ", its status", m.status(), status);
    }

    static void refused(MurmurHall m, String what, boolean got, int status) {
        due(what, got, false);
        due(what + ", its status", m.status(), status);
    }

    /** A call that was done: its answer, and STATUS 0. */
    static void done(MurmurHall m, String what, long got, long want) {
        due(what, got, want);
        due(what + ", its status", m.status(), 0);
    }

    static void done(MurmurHall m, String what, boolean got) {
        done(m, what, got ? 1 : 0, 1);
    }

    static void fraction(MurmurHall m, String what, long top, long bottom) {
        due(what + ", its top", m.top(), top);
        due(what + ", its bottom", m.bottom(), bottom);
    }

    /** Puts a text onto the tape, with as many 0s behind it as the last feed needs. */
    static void feed(MurmurHall m, String text) {
        for (int at = 0; at < text.length(); at += 20) {
            int[] five = new int[5];
            for (int i = 0; i < 20; i++) {
                int sign = at + i < text.length() ? text.charAt(at + i) : 0;
                five[i / 4] = five[i / 4] << 8 | sign;
            }
            m.feed(five[0], five[1], five[2], five[3], five[4]);
        }
    }

    static int hall(MurmurHall m, String text) {
        feed(m, text);
        return m.hall(text.length());
    }

    static int mornings(MurmurHall m, String text) {
        feed(m, text);
        return m.mornings(text.length());
    }

    static MurmurHall market() {
        MurmurHall m = new MurmurHall();
        due("hall of the market", hall(m, MARKET), 2);
        return m;
    }

    /** The text must have such a FAULT at such a place as a HALL. */
    static void hallFault(String text, int kind, int place) {
        MurmurHall m = new MurmurHall();
        refused(m, "hall [" + text + "]", hall(m, text), 9);
        due("fault(0) of [" + text + "]", m.fault(0), kind);
        due("fault(1) of [" + text + "]", m.fault(1), place);
    }

    /** The text must have such a FAULT at such a place as MORNINGS of the market. */
    static void morningsFault(String text, int kind, int place) {
        MurmurHall m = market();
        refused(m, "mornings [" + text + "]", mornings(m, text), 9);
        due("fault(0) of [" + text + "]", m.fault(0), kind);
        due("fault(1) of [" + text + "]", m.fault(1), place);
    }

    /** A MurmurHall of such a text. */
    static MurmurHall of(String text) {
        MurmurHall m = new MurmurHall();
        if (hall(m, text) == MurmurHall.NONE) broken("hall [" + text + "] was not taken: " + m.fault(0) + " at " + m.fault(1));
        return m;
    }

    /** Something of everything: a day recorded and scrawled over, MORNINGS lived, a FRACTION, TRAYS, two MARKS, a tape. */
    static MurmurHall busy() {
        MurmurHall m = market();
        m.mark();
        m.record();
        m.scrawl(0, 2, 3);
        mornings(m, "say p 1 7;walk q d;hush;hush;");
        m.live(5);
        m.mark();
        m.chance(1, 3, 1);
        m.tray(0, 0, 3);
        m.tray(1, 1, 3);
        m.tray(2, 0, 0);
        m.write(0, 1, 7);
        m.write(1, 2, 300);
        hall(m, "place");
        m.feed(0x616e793b, 0x616e793b, 0x616e793b, 0x616e793b, 0x616e793b);
        return m;
    }

    /** All that the calls tell of the HALL, what is RECORDED (in some BEATS) and the MORNINGS; these are lived. */
    private static void tellState(MurmurHall m, StringBuilder told) {
        for (int what = 0; what < 8; what++) told.append(m.told(what)).append(' ');
        for (int way = 0; way < m.told(1); way++) for (int what = 0; what < 4; what++) told.append(m.way(way, what)).append(' ');
        for (int slate = 0; slate < m.told(2); slate++) {
            told.append(m.slate(slate)).append(" slate ");
            for (int beat = 0; beat < 9; beat++) told.append(m.recorded(slate, beat)).append(' ');
            told.append(m.recorded(slate, 90)).append(' ');
        }
        for (int caller = 0; caller < m.told(3); caller++) {
            told.append(m.caller(caller, 0)).append(" caller ");
            for (int cry = 0; cry < m.caller(caller, 1); cry++) {
                for (int i = 0; i < 3; i++) told.append(m.cry(caller, cry, i)).append(' ');
            }
        }
        for (int call = 0; call < m.told(4); call++) for (int what = 0; what < 3; what++) told.append(m.call(call, what)).append(' ');
        if (m.told(0) > 2) told.append(m.far(0, 2)).append(m.lost(0, 2));
        told.append(m.mean(3, 4)).append(m.top()).append('/').append(m.bottom()).append(' ');
        told.append(m.live(7)).append(" lived\n");
    }

    /** All that a MARK keeps, as the calls tell it; the MORNINGS are lived by that. */
    static String state(MurmurHall m) {
        StringBuilder told = new StringBuilder();
        tellState(m, told);
        tellState(m, told);
        return told.toString();
    }

    /** All that can be told of an object but its STATUS; it is used up by that. */
    static String autopsy(MurmurHall m) {
        StringBuilder told = new StringBuilder();
        told.append(m.top()).append('/').append(m.bottom()).append(" fault ").append(m.fault(0)).append(' ').append(m.fault(1));
        for (int what = 0; what < 5; what++) told.append(" lived ").append(m.lived(what));
        for (int tray = 0; tray < 4; tray++) {
            told.append("\ntray ");
            for (int place = 0; place < 5; place++) told.append(m.read(tray, place)).append(':').append(m.status()).append(' ');
            m.write(tray, 0, -1L >>> 1);
            told.append(m.read(tray, 0));
        }
        told.append("\ntape ").append(m.feed(0x20202020, 0x20202020, 0x20202020, 0x20202020, 0x20202020)).append('\n');
        for (int mark = 0; mark < 4; mark++) {
            tellState(m, told);
            told.append("marks ").append(m.undo()).append('\n');
        }
        return told.toString();
    }

    /** The call must be refused with such a STATUS, and change nothing in an object made so. */
    static void changesNothing(Supplier<MurmurHall> made, String what, ToLongFunction<MurmurHall> call, int status) {
        MurmurHall m = made.get();
        refused(m, what, call.applyAsLong(m), status);
        String got = autopsy(m);
        String want = autopsy(made.get());
        due(what + " changes nothing", got.equals(want), true);
    }

    /** As the answer of a call that gives a boolean: NONE for false. */
    static long none(boolean got) { return got ? 1 : MurmurHall.NONE; }

    static void end() {
        System.out.println(wrong == 0 ? asked + " answers are as due" : wrong + " of " + asked + " answers are not as due");
        if (wrong != 0) System.exit(1);
    }
}
