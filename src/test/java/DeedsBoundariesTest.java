import java.util.function.Consumer;

/** Boundary cases of what is done to a HALL, and of MARKS (promises 19 to 27, 56, 57). */
public final class DeedsBoundariesTest {
    private static final int LEAST = Integer.MIN_VALUE;
    private static final int MOST = Integer.MAX_VALUE;
    private static final String DAY = "say p 1 7;hush;walk q d;";

    public static void main(String[] args) { Boundaries.run(DeedsBoundariesTest.class); }

    // ---- promises 19, 20

    @Says(of = 19, value = "(1; 4: a ninth; 7: it is told)")
    static void sayOfWhatThereIsNot() {
        MurmurHall m = Check.market();
        for (int caller : new int[] {LEAST, -1, 2, MOST}) Check.refused(m, "caller " + caller, m.say(caller, 0, 5), 1);
        for (int cry : new int[] {LEAST, -1, 2, MOST}) Check.refused(m, "cry " + cry, m.say(0, cry, 5), 1);
        Check.refused(m, "a cry that another one has", m.say(1, 1, 5), 1);
        Check.done(m, "the last cry of the first", m.say(0, 1, 5), 3);
        Check.done(m, "the last caller", m.say(1, 0, 5), 4);
    }

    @Says(of = 19, value = "A CALL more (BEAT 0 to 20): how many there are")
    static void sayAtTheFirstAndTheLastBeat() {
        MurmurHall m = Check.market();
        for (int beat : new int[] {LEAST, -1, 21, MOST}) Check.refused(m, "beat " + beat, m.say(0, 1, beat), 1);
        Check.done(m, "beat 0", m.say(0, 1, 0), 3);
        Check.done(m, "beat 20", m.say(0, 1, 20), 4);
        Check.done(m, "as it was said", m.call(3, 2), 20);
    }

    @Says(of = 19, value = "4: a ninth")
    static void sayANinth() {
        MurmurHall m = new MurmurHall();
        Check.hall(m, "place a;caller p at a;cry p 1;");
        for (int i = 1; i <= 8; i++) Check.done(m, "say", m.say(0, 0, i), i);
        Check.refused(m, "a ninth", m.say(0, 0, 0), 4);
        Check.refused(m, "a ninth that is told", m.say(0, 0, 8), 4);
        Check.refused(m, "a ninth that can't be", m.say(0, 1, 0), 1);
        Check.done(m, "eight are there", m.told(4), 8);
        Check.done(m, "hush one", m.hush(0), 7);
        Check.done(m, "an eighth again", m.say(0, 0, 0), 8);
        Check.done(m, "it is the last", m.call(7, 2), 0);
    }

    @Says(of = 19, value = "7: it is told")
    static void sayWhatIsTold() {
        MurmurHall m = Check.market();
        Check.refused(m, "the first", m.say(0, 0, 0), 7);
        Check.refused(m, "the last", m.say(1, 0, 1), 7);
        m.walk(1, 3);
        Check.refused(m, "wherever he is", m.say(1, 0, 1), 7);
        Check.done(m, "in another beat", m.say(1, 0, 0), 3);
        Check.done(m, "another cry then", m.say(0, 1, 0), 4);
        m.hush(0);
        Check.done(m, "hushed, then again", m.say(0, 0, 0), 4);
    }

    @Says(of = 20, value = "A CALL is struck; those behind it have a number less: how many there are (1).")
    static void hushBeyondTheCalls() {
        MurmurHall m = Check.market();
        m.say(0, 1, 20);
        for (int call : new int[] {LEAST, -1, 3, 7, 8, MOST}) Check.refused(m, "hush " + call, m.hush(call), 1);
        Check.done(m, "the first", m.hush(0), 2);
        Check.done(m, "the second is the first", m.call(0, 0), 1);
        Check.done(m, "the third is the second", m.call(1, 2), 20);
        Check.refused(m, "there is no third", m.call(2, 0), 1);
        Check.done(m, "the last", m.hush(1), 1);
        Check.done(m, "those ahead stay", m.call(0, 0), 1);
        Check.done(m, "the only one", m.hush(0), 0);
        Check.refused(m, "none is left", m.hush(0), 1);
    }

    @Says(of = 20, value = "those behind it have a number less")
    static void hushTheFirstOfEight() {
        MurmurHall m = Check.of(BasicsBoundariesTest.FULL);
        Check.done(m, "hush", m.hush(0), 7);
        int[] beats = {20, 0, 1, 2, 3, 4, 20};
        for (int i = 0; i < 7; i++) Check.done(m, "call " + i, m.call(i, 2), beats[i]);
    }

    // ---- promises 21, 22

    @Says(of = 21, value = "A CALLER walks to a PLACE: where he was (1; 7: he is there).")
    static void walkToWhereHeIs() {
        MurmurHall m = Check.market();
        for (int caller : new int[] {LEAST, -1, 2, MOST}) Check.refused(m, "caller " + caller, m.walk(caller, 1), 1);
        for (int place : new int[] {LEAST, -1, 4, 6, 7, MOST}) Check.refused(m, "place " + place, m.walk(0, place), 1);
        Check.refused(m, "he is there", m.walk(0, 0), 7);
        Check.done(m, "to the last place, though no way goes", m.walk(0, 3), 0);
        Check.refused(m, "he is there", m.walk(0, 3), 7);
        Check.done(m, "and back to the first", m.walk(0, 0), 3);
        Check.done(m, "the other one stayed", m.caller(1, 0), 1);
    }

    @Says(of = 22, value = "A SLATE hangs AT a PLACE: where it hung (1; 7: it does).")
    static void hangWhereItHangs() {
        MurmurHall m = Check.market();
        for (int slate : new int[] {LEAST, -1, 2, 3, 4, MOST}) Check.refused(m, "slate " + slate, m.hang(slate, 1), 1);
        for (int place : new int[] {LEAST, -1, 4, 6, 7, MOST}) Check.refused(m, "place " + place, m.hang(0, place), 1);
        Check.refused(m, "it does", m.hang(1, 2), 7);
        Check.done(m, "at the last place", m.hang(1, 3), 2);
        Check.refused(m, "it does", m.hang(1, 3), 7);
        Check.done(m, "beside the other one", m.hang(1, 0), 3);
        Check.done(m, "the other one stayed", m.slate(0), 0);
        Check.done(m, "both hear alike", m.heard(1, 0), 9);
    }

    // ---- promise 23

    @Says(of = 23, value = "A WAY is so LONG (1 to 9), with such a LOSS (0 to 9) (1).")
    static void paveAtTheLimits() {
        MurmurHall m = Check.market();
        for (int way : new int[] {LEAST, -1, 3, 9, 10, MOST}) Check.refused(m, "way " + way, m.pave(way, 1, 0), 1);
        for (int size : new int[] {LEAST, -1, 0, 10, MOST}) Check.refused(m, "long " + size, m.pave(2, size, 0), 1);
        for (int loss : new int[] {LEAST, -1, 10, MOST}) Check.refused(m, "loss " + loss, m.pave(2, 1, loss), 1);
        Check.done(m, "nothing was changed", m.way(2, 2), 3);
        Check.done(m, "the most", m.pave(2, 9, 9));
        Check.done(m, "its long", m.way(2, 2), 9);
        Check.done(m, "its loss", m.way(2, 3), 9);
        Check.done(m, "the least", m.pave(2, 1, 0));
        Check.done(m, "its long", m.way(2, 2), 1);
        Check.done(m, "its loss", m.way(2, 3), 0);
        Check.done(m, "as it is", m.pave(2, 1, 0));
        Check.done(m, "far at once", m.far(0, 2), 1);
        Check.done(m, "the others stayed", m.way(0, 2), 2);
        Check.done(m, "from place to place they stay", m.way(2, 1), 2);
    }

    // ---- promise 24

    @Says(of = 24, value = "A CRY more of a CALLER: a number (1 to 99), a second, a third (0: none; behind none there is none)")
    static void teachAtTheLimits() {
        MurmurHall m = Check.of("place a;caller p at a;caller q at a;");
        for (int a : new int[] {LEAST, -1, 0, 100, MOST}) Check.refused(m, "first " + a, m.teach(0, a, 1, 1), 1);
        for (int b : new int[] {LEAST, -1, 100, MOST}) Check.refused(m, "second " + b, m.teach(0, 1, b, 0), 1);
        for (int c : new int[] {LEAST, -1, 100, MOST}) Check.refused(m, "third " + c, m.teach(0, 1, 1, c), 1);
        for (int c : new int[] {-1, 1, 99}) Check.refused(m, "a third behind none", m.teach(0, 1, 0, c), 1);
        Check.refused(m, "none at all", m.teach(0, 0, 0, 0), 1);
        Check.done(m, "none was taught", m.caller(0, 1), 0);
        Check.done(m, "one", m.teach(0, 1, 0, 0), 0);
        Check.refused(m, "it has no second", m.cry(0, 0, 1), 6);
        Check.done(m, "two", m.teach(0, 99, 1, 0), 1);
        Check.refused(m, "it has no third", m.cry(0, 1, 2), 6);
        Check.done(m, "three", m.teach(0, 99, 99, 99), 2);
        Check.done(m, "its third", m.cry(0, 2, 2), 99);
    }

    @Says(of = 24, value = "its number (1; 4: a fourth)")
    static void teachAFourth() {
        MurmurHall m = Check.of("place a;caller p at a;caller q at a;cry p 1;cry p 2;");
        for (int caller : new int[] {LEAST, -1, 2, MOST}) Check.refused(m, "caller " + caller, m.teach(caller, 1, 0, 0), 1);
        Check.done(m, "a third", m.teach(0, 3, 0, 0), 2);
        Check.refused(m, "a fourth", m.teach(0, 4, 0, 0), 4);
        Check.refused(m, "a fourth that can't be", m.teach(0, 100, 0, 0), 1);
        Check.done(m, "the next one's first", m.teach(1, 5, 0, 0), 0);
        Check.done(m, "the third stayed", m.cry(0, 2, 0), 3);
        Check.done(m, "the same numbers once more", m.teach(1, 5, 0, 0), 1);
    }

    // ---- promise 25

    @Says(of = 25, value = "ODDS from now on (0 to 16) (1).")
    static void ruleAtTheLimits() {
        MurmurHall m = Check.market();
        for (int odds : new int[] {LEAST, -1, 17, MOST}) Check.refused(m, "odds " + odds, m.rule(odds), 1);
        Check.done(m, "they stay", m.told(5), 8);
        Check.done(m, "the least", m.rule(0));
        Check.done(m, "they are", m.told(5), 0);
        Check.done(m, "the most", m.rule(16));
        Check.done(m, "they are", m.told(5), 16);
        Check.done(m, "as they are", m.rule(16));
    }

    // ---- promises 26, 27

    @Says(of = 26, value = "RECORD: all SUMS together.")
    static void recordOfNothingAndOfAll() {
        MurmurHall m = new MurmurHall();
        Check.done(m, "a hall of nothing", m.record(), 0);
        m = Check.of("place a;slate s at a;caller p at a;cry p 1;");
        Check.done(m, "no calls", m.record(), 0);
        m = Check.of("place a;caller p at a;cry p 1;call p 0 at 0;");
        Check.done(m, "no slates", m.record(), 0);
        StringBuilder most = new StringBuilder("place a;slate s at a;slate t at a;slate u at a;slate v at a;caller p at a;cry p 99 99 99;");
        for (int i = 0; i < 8; i++) most.append("call p 0 at ").append(i).append(';');
        m = Check.of(most.toString());
        Check.done(m, "as much as can be", m.record(), 8 * 3 * 99 * 4);
    }

    @Says(of = 0, value = "RECORD: SUMS on all SLATES in BEATS 0 to 90 are kept (in place of those kept ahead).")
    static void recordInPlaceOfThatAhead() {
        MurmurHall m = Check.market();
        m.record();
        m.scrawl(0, 0, 1);
        m.scrawl(1, 90, 2);
        m.hush(0);
        m.hush(0);
        Check.done(m, "it stays while calls are hushed", m.recorded(0, 1), 5);
        Check.done(m, "record", m.record(), 0);
        Check.done(m, "in the first beat", m.recorded(0, 0), 0);
        Check.done(m, "in the last beat", m.recorded(1, 90), 0);
        Check.done(m, "nothing differs", m.differs(), 0);
    }

    @Says(of = 27, value = "(1: BEAT 0 to 90, SUM 0 to 999; 6: nothing is RECORDED)")
    static void scrawlAtTheLimits() {
        MurmurHall m = Check.market();
        Check.refused(m, "nothing is recorded", m.scrawl(0, 0, 0), 6);
        m.record();
        for (int slate : new int[] {LEAST, -1, 2, 3, 4, MOST}) Check.refused(m, "slate " + slate, m.scrawl(slate, 0, 0), 1);
        for (int beat : new int[] {LEAST, -1, 91, MOST}) Check.refused(m, "beat " + beat, m.scrawl(0, beat, 0), 1);
        for (int sum : new int[] {LEAST, -1, 1000, MOST}) Check.refused(m, "sum " + sum, m.scrawl(0, 0, sum), 1);
        Check.done(m, "nothing was scrawled", m.differs(), 0);
        Check.done(m, "the first beat, the most", m.scrawl(0, 0, 999), 9);
        Check.done(m, "the last beat, the most", m.scrawl(1, 90, 999), 0);
        Check.done(m, "the least", m.scrawl(0, 0, 0), 999);
        Check.done(m, "it is there", m.recorded(0, 0), 0);
        Check.done(m, "and there", m.recorded(1, 90), 999);
        Check.done(m, "not on the other slate", m.recorded(0, 90), 0);
        Check.done(m, "nothing else", m.differs(), 2);
    }

    @Says(of = 0, value = "SCRAWL: one of these is another one (0 to 999).")
    static void scrawlOneAlone() {
        MurmurHall m = Check.market();
        m.record();
        Check.done(m, "more than can be heard", m.scrawl(0, 1, 999), 5);
        Check.done(m, "it is there", m.recorded(0, 1), 999);
        Check.done(m, "one alone", m.differs(), 1);
        Check.done(m, "the sum itself stays", m.heard(0, 1), 5);
        Check.done(m, "nothing at all", m.scrawl(0, 1, 0), 999);
        Check.done(m, "it is there", m.recorded(0, 1), 0);
    }

    @Says(of = 27, value = "SCRAWL: what was RECORDED there")
    static void scrawlWhatStandsThere() {
        MurmurHall m = Check.market();
        m.record();
        Check.done(m, "the same", m.scrawl(0, 0, 9), 9);
        Check.done(m, "nothing differs", m.differs(), 0);
        Check.done(m, "what is heard stays", m.heard(0, 0), 9);
    }

    // ---- promises 56, 57

    @Says(of = 56, value = "A MARK more: how many there are (4).")
    static void markAFourth() {
        MurmurHall m = Check.market();
        for (int i = 1; i <= 3; i++) Check.done(m, "mark", m.mark(), i);
        m.rule(1);
        Check.refused(m, "a fourth", m.mark(), 4);
        Check.refused(m, "and again", m.mark(), 4);
        Check.done(m, "undo", m.undo(), 2);
        Check.done(m, "the fourth was none", m.told(5), 8);
        Check.done(m, "a third again", m.mark(), 3);
    }

    @Says(of = 57, value = "All is taken back to the latest MARK: how many there are left (6).")
    static void undoUntilNoneIsLeft() {
        MurmurHall m = Check.market();
        Check.refused(m, "none", m.undo(), 6);
        for (int odds = 1; odds <= 3; odds++) {
            m.rule(odds);
            m.mark();
        }
        m.rule(9);
        for (int left = 2; left >= 0; left--) {
            Check.done(m, "undo", m.undo(), left);
            Check.done(m, "odds", m.told(5), left + 1);
        }
        m.rule(9);
        Check.refused(m, "none is left", m.undo(), 6);
        Check.done(m, "nothing is taken back", m.told(5), 9);
    }

    private static MurmurHall marked() {
        MurmurHall m = Check.market();
        Check.mornings(m, DAY);
        m.mark();
        return m;
    }

    /** To tell the state lives the MORNINGS, so each of the three is told of an object of its own. */
    private static void takenBack(String what, Consumer<MurmurHall> deed) {
        String before = Check.state(marked());
        MurmurHall changed = marked();
        deed.accept(changed);
        Check.due(what + " changes something", Check.state(changed).equals(before), false);
        MurmurHall back = marked();
        deed.accept(back);
        Check.done(back, "undo", back.undo(), 0);
        Check.due(what + " is taken back", Check.state(back).equals(before), true);
    }

    @Says(of = 0, value = {"MARKS, at most 3: the HALL with all that became of it, what is RECORDED, the MORNINGS are kept as they are",
        "all is taken back to the latest MARK, which is gone then."})
    static void eachDeedIsTakenBack() {
        takenBack("say", m -> m.say(0, 1, 20));
        takenBack("hush", m -> m.hush(0));
        takenBack("walk", m -> m.walk(0, 3));
        takenBack("hang", m -> m.hang(0, 3));
        takenBack("pave", m -> m.pave(2, 1, 1));
        takenBack("a loss alone", m -> m.pave(2, 3, 1));
        takenBack("teach", m -> m.teach(1, 1, 2, 3));
        takenBack("rule", m -> m.rule(0));
        takenBack("record", MurmurHall::record);
        takenBack("record and scrawl", m -> { m.record(); m.scrawl(0, 0, 1); });
        takenBack("hall", m -> Check.hall(m, "place z;place y;way z y long 1;slate x at y;caller w at z;cry w 1 2 3;call w 0 at 4;"));
        takenBack("a hall of nothing", m -> m.hall(0));
        takenBack("mornings", m -> Check.mornings(m, "walk p d;"));
        takenBack("mornings of as many steps", m -> Check.mornings(m, "hush;say p 1 8;say q 0 0;"));
        takenBack("live", m -> m.live(0));
    }

    @Says(of = 57, value = "All is taken back to the latest MARK")
    static void whatIsRecordedIsTakenBack() {
        MurmurHall m = Check.market();
        m.record();
        m.scrawl(0, 0, 1);
        m.mark();
        m.scrawl(0, 0, 2);
        m.scrawl(1, 90, 3);
        m.mark();
        m.hush(0);
        m.record();
        m.mark();
        Check.hall(m, "place z;");
        Check.done(m, "undo", m.undo(), 2);
        Check.done(m, "recorded last", m.recorded(0, 0), 0);
        Check.done(m, "undo", m.undo(), 1);
        Check.done(m, "scrawled last", m.recorded(0, 0), 2);
        Check.done(m, "scrawled last", m.recorded(1, 90), 3);
        Check.done(m, "undo", m.undo(), 0);
        Check.done(m, "scrawled first", m.recorded(0, 0), 1);
        Check.done(m, "not yet scrawled", m.recorded(1, 90), 0);
        Check.done(m, "recorded first", m.recorded(0, 1), 5);
    }

    @Says(of = 0, value = "what is RECORDED, the MORNINGS are kept as they are")
    static void aMarkOfNothing() {
        MurmurHall m = new MurmurHall();
        m.mark();
        Check.hall(m, Check.MARKET);
        Check.mornings(m, "any;");
        m.record();
        Check.done(m, "undo", m.undo(), 0);
        Check.due("as new", Check.state(m).equals(Check.state(new MurmurHall())), true);
        Check.refused(m, "no mornings", m.live(0), 6);
        Check.refused(m, "nothing is recorded", m.differs(), 6);
    }

    @Says(of = 0, value = "all is taken back to the latest MARK, which is gone then.")
    static void marksOutliveAHall() {
        MurmurHall m = Check.market();
        m.mark();
        Check.hall(m, "place z;");
        Check.done(m, "a second mark", m.mark(), 2);
        Check.hall(m, "place y;place x;");
        Check.done(m, "undo", m.undo(), 1);
        Check.done(m, "z", m.told(0), 1);
        Check.done(m, "undo", m.undo(), 0);
        Check.done(m, "the market", m.told(0), 4);
        Check.done(m, "its names", Check.mornings(m, "walk q d;when heard t 3=10;end;"), 2);
        Check.done(m, "its ways", m.far(0, 2), 3);
        Check.done(m, "its sums", m.heard(1, 3), 10);
    }
}
