/** Boundary cases of a new object, STATUS, FRACTIONS, TRAYS, the tape, and what is told of a HALL (promises 1 to 9, 13 to 18). */
public final class BasicsBoundariesTest {
    private static final int NONE = MurmurHall.NONE;
    private static final int LEAST = Integer.MIN_VALUE;
    private static final int MOST = Integer.MAX_VALUE;
    /** As many of everything as may be; all callers at one place, the last caller with three cries. */
    static final String FULL = "odds 16;place a;place b;place c;place d;place e;place f;place g;"
        + "way a b long 9 loses 9;".repeat(10) + "slate h at g;slate i at g;slate j at g;slate k at f;"
        + "caller l at a;caller m at a;caller n at a;caller o at a;caller p at a;cry p 99 99 99;cry p 1;cry p 2;"
        + "call p 0 at 0;call p 0 at 20;call p 2 at 0;call p 2 at 1;call p 2 at 2;call p 2 at 3;call p 2 at 4;call p 2 at 20;";

    public static void main(String[] args) { Boundaries.run(BasicsBoundariesTest.class); }

    // ---- promise 1

    @Says(of = 1, value = "A HALL of nothing")
    static void newHallIsOfNothing() {
        MurmurHall m = new MurmurHall();
        for (int what = 0; what < 5; what++) Check.done(m, "told " + what, m.told(what), 0);
        Check.done(m, "no cries", m.told(7), 0);
        Check.refused(m, "no way 0", m.way(0, 0), 1);
        Check.refused(m, "no slate 0", m.slate(0), 1);
        Check.refused(m, "no caller 0", m.caller(0, 0), 1);
        Check.refused(m, "no cry 0", m.cry(0, 0, 0), 1);
        Check.refused(m, "no call 0", m.call(0, 0), 1);
        Check.refused(m, "no place 0", m.far(0, 0), 1);
        Check.refused(m, "none to hush", m.hush(0), 1);
    }

    @Says(of = 1, value = "ODDS 4")
    static void newOddsAreFour() {
        MurmurHall m = new MurmurHall();
        Check.done(m, "odds", m.told(5), 4);
    }

    @Says(of = 1, value = "nothing is RECORDED")
    static void newHasNothingRecorded() {
        MurmurHall m = new MurmurHall();
        Check.done(m, "told 6", m.told(6), 0);
        Check.refused(m, "differs", m.differs(), 6);
        Check.refused(m, "fewest", m.fewest(), 6);
        Check.refused(m, "moved", m.moved(), 6);
    }

    @Says(of = 1, value = "no MORNINGS, MARKS")
    static void newHasNoMorningsNoMarks() {
        MurmurHall m = new MurmurHall();
        Check.refused(m, "live", m.live(0), 6);
        Check.refused(m, "mean", m.mean(0, 1), 6);
        Check.refused(m, "lived", m.lived(0), 6);
        Check.refused(m, "undo", m.undo(), 6);
        Check.done(m, "the first mark", m.mark(), 1);
    }

    @Says(of = 1, value = "TRAYS are MISSING")
    static void newTraysAreMissing() {
        MurmurHall m = new MurmurHall();
        for (int tray = 0; tray < 4; tray++) {
            Check.refused(m, "read " + tray, m.read(tray, 0), 2);
            Check.refused(m, "write " + tray, m.write(tray, 0, 0), 2);
            Check.refused(m, "pour " + tray, m.pour(tray, 0, tray, 0, 0), 2);
        }
    }

    @Says(of = 1, value = "an empty tape")
    static void newTapeIsEmpty() {
        MurmurHall m = new MurmurHall();
        Check.refused(m, "a byte of it", m.hall(1), 1);
        Check.refused(m, "a byte of it", m.mornings(1), 1);
        Check.due("the first feed", m.feed(0, 0, 0, 0, 0), 20);
    }

    @Says(of = 1, value = "the FRACTION 0 by 1; STATUS 0.")
    static void newFractionAndStatus() {
        MurmurHall m = new MurmurHall();
        Check.due("status", m.status(), 0);
        Check.fraction(m, "at first", 0, 1);
        Check.due("no fault yet", m.fault(0), NONE);
    }

    @Says(of = 1, value = "A HALL of nothing; ODDS 4; nothing is RECORDED; no MORNINGS, MARKS; TRAYS are MISSING; an empty tape")
    static void newObjectHasNothingOfAnother() {
        Check.busy();
        Check.due("as new as any", Check.autopsy(new MurmurHall()).equals(Check.autopsy(new MurmurHall())), true);
        newHallIsOfNothing();
        newTraysAreMissing();
        newHasNoMorningsNoMarks();
        newFractionAndStatus();
    }

    @Says(of = 0, value = "An object is used for at most 512 calls after it has been made")
    static void fiveHundredAndTwelveCalls() {
        MurmurHall m = Check.market();
        for (int used = (Check.MARKET.length() + 19) / 20 + 1; used < 511; used++) m.heard(1, used % 91);
        Check.due("the 512th call", m.heard(1, 3), 10);
    }

    // ---- promises 2, 3, 4 and ==== 5.

    @Says(of = 2, value = "STATUS of the latest call that has one.")
    static void statusIsOfTheLatest() {
        MurmurHall m = Check.market();
        Check.refused(m, "slate(2)", m.slate(2), 1);
        Check.done(m, "slate(1)", m.slate(1), 2);
        Check.refused(m, "far(0, 3)", m.far(0, 3), 6);
        Check.refused(m, "read(0, 0)", m.read(0, 0), 2);
        Check.done(m, "tray", m.tray(0, 0, 1));
    }

    @Says(of = 0, value = "status(), top(), bottom(), feed(), fault() have none.")
    static void fiveCallsHaveNoStatus() {
        MurmurHall m = new MurmurHall();
        Check.refused(m, "told(8)", m.told(8), 1);
        m.status();
        Check.due("behind status()", m.status(), 1);
        m.top();
        Check.due("behind top()", m.status(), 1);
        m.bottom();
        Check.due("behind bottom()", m.status(), 1);
        m.fault(0);
        Check.due("behind fault(0)", m.status(), 1);
        m.fault(9);
        Check.due("behind fault(9)", m.status(), 1);
        for (int i = 0; i < 46; i++) m.feed(0, 0, 0, 0, 0);
        Check.due("behind feed() taken and not", m.status(), 1);
    }

    @Says(of = 3, value = "The top of the FRACTION told latest.")
    static void topStaysUntilToldAnew() {
        MurmurHall m = Check.market();
        Check.done(m, "chance", m.chance(1, 3, 1));
        Check.fraction(m, "three quarters", 3, 4);
        Check.refused(m, "chance on no slate", m.chance(2, 3, 10), 1);
        Check.refused(m, "quiet on no slate", m.quiet(2), 1);
        Check.refused(m, "mean without mornings", m.mean(0, 1), 6);
        Check.done(m, "told", m.told(0), 4);
        Check.fraction(m, "stays", 3, 4);
        Check.done(m, "quiet", m.quiet(0));
        Check.fraction(m, "told anew", 1, 4);
    }

    @Says(of = 3, value = "The top of the FRACTION")
    static void topAboveAnInt() {
        MurmurHall m = Check.of("odds 1;place a;slate s at a;caller p at a;cry p 1;cry p 1 1;cry p 1 1 1;"
            + "call p 0 at 2;call p 1 at 2;call p 1 at 1;call p 2 at 2;call p 2 at 1;call p 2 at 0;");
        Check.done(m, "chance", m.chance(0, 2, 6));
        Check.fraction(m, "six said", 15L * 15 * 15 * 15 * 15 * 15, 1L << 24);
        m = Check.of("odds 1;place a;slate s at a;caller p at a;caller q at a;caller r at a;cry p 1;cry p 1 1;cry p 1 1 1;"
            + "cry q 1;cry q 1 1;cry r 1;call p 0 at 2;call p 1 at 2;call p 1 at 1;call p 2 at 2;call p 2 at 1;call p 2 at 0;call q 0 at 2;call q 1 at 2;");
        Check.done(m, "chance", m.chance(0, 2, 8));
        Check.fraction(m, "eight said", 2562890625L, 1L << 32);
    }

    @Says(of = 4, value = "Its bottom, above 0.")
    static void bottomIsAboveNothing() {
        MurmurHall m = Check.market();
        Check.due("at first", m.bottom(), 1);
        Check.done(m, "chance", m.chance(0, 90, 1));
        Check.due("of no chance", m.bottom(), 1);
        m.rule(0);
        Check.done(m, "quiet", m.quiet(0));
        Check.due("never quiet", m.bottom(), 1);
    }

    @Says(of = 0, value = {"FRACTIONS are told by top() and bottom() without a common divisor, the bottom above 0", "0 is 0 by 1."})
    static void fractionsAreCutDown() {
        MurmurHall m = Check.market();
        Check.done(m, "chance 0", m.chance(0, 90, 999));
        Check.fraction(m, "0", 0, 1);
        Check.done(m, "chance 1", m.chance(0, 90, 0));
        Check.fraction(m, "1", 1, 1);
        m.rule(12);
        Check.done(m, "quiet", m.quiet(0));
        Check.fraction(m, "144 by 256", 9, 16);
        Check.mornings(m, "hush;hush;");
        Check.done(m, "mean of nothing", m.mean(0, 20));
        Check.fraction(m, "0 by 20", 0, 1);
        Check.mornings(m, "record;");
        Check.done(m, "mean", m.mean(0, 20));
        Check.fraction(m, "820 by 20", 41, 1);
    }

    @Says(of = 0, value = "STATUS of a call is the first of these that holds")
    static void statusIsTheFirstThatHolds() {
        MurmurHall m = Check.market();
        Check.refused(m, "write: 1 ahead of 3", m.write(4, 99, 0), 1);
        Check.refused(m, "write: 2 ahead of 3", m.write(3, 99, 0), 2);
        Check.refused(m, "read: 1 ahead of 3", m.read(-1, -1), 1);
        Check.refused(m, "read: 2 ahead of 3", m.read(3, -1), 2);
        Check.refused(m, "copyHeard: 1 ahead of 2", m.copyHeard(2, 3, 0, 1), 1);
        Check.refused(m, "copyHeard: 2 ahead of 3", m.copyHeard(0, 3, 0, 60), 2);
        Check.refused(m, "scrawl: 1 ahead of 6", m.scrawl(0, 91, 0), 1);
        Check.refused(m, "recorded: 1 ahead of 6", m.recorded(0, 91), 1);
        Check.refused(m, "answers: 1 ahead of 6", m.answers(5), 1);
        Check.refused(m, "answerAt: 1 ahead of 6", m.answerAt(0, -1), 1);
        Check.refused(m, "with: 1 ahead of 6", m.with(4, 2, 0, 0), 1);
        Check.refused(m, "slips: 1 ahead of 6", m.slips(3), 1);
        Check.refused(m, "slipsAt: 1 ahead of 6", m.slipsAt(0, -1), 1);
        Check.refused(m, "movedAt: 1 ahead of 6", m.movedAt(0, 3), 1);
        Check.refused(m, "live: 1 ahead of 6", m.live(10000), 1);
        Check.refused(m, "lived: 1 ahead of 6", m.lived(5), 1);
        Check.refused(m, "mean: 1 ahead of 6", m.mean(0, 21), 1);
        Check.refused(m, "cry: 1 ahead of 6", m.cry(2, 0, 9), 1);
        for (int i = 0; i < 6; i++) m.say(0, 1, i);
        Check.refused(m, "say: 1 ahead of 4", m.say(0, 0, 21), 1);
        Check.refused(m, "say: 4 ahead of 7", m.say(0, 0, 0), 4);
        m.teach(0, 1, 0, 0);
        Check.refused(m, "teach: 1 ahead of 4", m.teach(0, 100, 0, 0), 1);
    }

    @Says(of = 0, value = "With another STATUS than 0 a call gives NONE, or false, and changes nothing else")
    static void refusedTrayCallsChangeNothing() {
        Check.changesNothing(Check::busy, "tray", m -> Check.none(m.tray(0, 1, 61)), 1);
        Check.changesNothing(Check::busy, "tray", m -> Check.none(m.tray(0, 4, 2)), 1);
        Check.changesNothing(Check::busy, "write", m -> Check.none(m.write(0, 3, 5)), 3);
        Check.changesNothing(Check::busy, "write", m -> Check.none(m.write(0, -1, 5)), 3);
        Check.changesNothing(Check::busy, "write", m -> Check.none(m.write(3, 0, 5)), 2);
        Check.changesNothing(Check::busy, "read", m -> m.read(0, 3), 3);
        Check.changesNothing(Check::busy, "pour", m -> Check.none(m.pour(0, 1, 0, 0, 3)), 3);
        Check.changesNothing(Check::busy, "pour", m -> Check.none(m.pour(0, 0, 0, 1, 3)), 3);
        Check.changesNothing(Check::busy, "pour", m -> Check.none(m.pour(0, 0, 1, 0, 3)), 8);
        Check.changesNothing(Check::busy, "pour", m -> Check.none(m.pour(0, 0, 3, 0, 0)), 2);
        Check.changesNothing(Check::busy, "copyHeard", m -> m.copyHeard(0, 0, 0, 4), 3);
        Check.changesNothing(Check::busy, "copyHeard", m -> m.copyHeard(0, 0, 89, 3), 1);
    }

    @Says(of = 0, value = "With another STATUS than 0 a call gives NONE, or false, and changes nothing else")
    static void refusedDeedsChangeNothing() {
        Check.changesNothing(Check::busy, "hall", m -> m.hall(21), 1);
        Check.changesNothing(Check::busy, "mornings", m -> m.mornings(21), 1);
        Check.changesNothing(Check::busy, "say", m -> m.say(0, 0, 21), 1);
        Check.changesNothing(Check::busy, "say", m -> m.say(0, 0, 0), 7);
        Check.changesNothing(Check::busy, "hush", m -> m.hush(1), 1);
        Check.changesNothing(Check::busy, "walk", m -> m.walk(0, 4), 1);
        Check.changesNothing(Check::busy, "walk", m -> m.walk(0, 0), 7);
        Check.changesNothing(Check::busy, "hang", m -> m.hang(0, 4), 1);
        Check.changesNothing(Check::busy, "hang", m -> m.hang(0, 0), 7);
        Check.changesNothing(Check::busy, "pave", m -> Check.none(m.pave(2, 1, 10)), 1);
        Check.changesNothing(Check::busy, "pave", m -> Check.none(m.pave(2, 10, 1)), 1);
        Check.changesNothing(Check::busy, "teach", m -> m.teach(0, 9, 0, 9), 1);
        Check.changesNothing(Check::busy, "rule", m -> Check.none(m.rule(17)), 1);
        Check.changesNothing(Check::busy, "scrawl", m -> m.scrawl(0, 0, 1000), 1);
        Check.changesNothing(Check::busy, "live", m -> m.live(10000), 1);
        Check.changesNothing(Check::busy, "mean", m -> Check.none(m.mean(9999, 2)), 1);
        Check.changesNothing(BasicsBoundariesTest::full, "a ninth", m -> m.say(4, 1, 20), 4);
        Check.changesNothing(BasicsBoundariesTest::full, "a fourth cry", m -> m.teach(4, 1, 0, 0), 4);
        Check.changesNothing(BasicsBoundariesTest::full, "a fourth mark", MurmurHall::mark, 4);
        Check.changesNothing(BasicsBoundariesTest::full, "scrawl on nothing", m -> m.scrawl(0, 0, 5), 6);
        Check.changesNothing(MurmurHall::new, "undo without marks", MurmurHall::undo, 6);
    }

    private static MurmurHall full() {
        MurmurHall m = Check.of(FULL);
        for (int i = 0; i < 3; i++) m.mark();
        return m;
    }

    @Says(of = 0, value = "With another STATUS than 0 a call gives NONE, or false, and changes nothing else")
    static void refusedQuestionsChangeNothing() {
        Check.changesNothing(Check::busy, "told", m -> m.told(8), 1);
        Check.changesNothing(Check::busy, "cry", m -> m.cry(0, 0, 2), 6);
        Check.changesNothing(Check::busy, "lost", m -> m.lost(0, 3), 6);
        Check.changesNothing(Check::busy, "heard", m -> m.heard(0, 91), 1);
        Check.changesNothing(Check::busy, "answerAt", m -> m.answerAt(4, 4), 6);
        Check.changesNothing(Check::busy, "slipsAt", m -> m.slipsAt(2, 2), 6);
        Check.changesNothing(Check::busy, "movedAt", m -> m.movedAt(900, 0), 6);
        Check.changesNothing(Check::busy, "alike", m -> m.alike(0, 0, 0, 1), 6);
        Check.changesNothing(Check::busy, "parts", m -> m.parts(16), 1);
        Check.changesNothing(Check::busy, "chance", m -> Check.none(m.chance(0, 0, 1000)), 1);
        Check.changesNothing(Check::busy, "quiet", m -> Check.none(m.quiet(2)), 1);
        Check.changesNothing(Check::busy, "lived", m -> m.lived(5), 1);
    }

    @Says(of = 0, value = "(but hall(), mornings() with 9 the tape, and what fault() tells)")
    static void faultyTextsChangeTheTapeAlone() {
        MurmurHall hall = Check.busy();
        Check.refused(hall, "hall with 9", hall.hall(20), 9);
        Check.due("its fault", hall.fault(0), 2);
        Check.due("its place", hall.fault(1), 0);
        MurmurHall mornings = Check.busy();
        Check.refused(mornings, "mornings with 9", mornings.mornings(19), 9);
        Check.due("its fault", mornings.fault(0), 2);
        Check.due("its place", mornings.fault(1), 19);
        String kept = Check.autopsy(Check.busy()).replaceFirst("fault 2 5 ", "").replace("tape 40", "");
        Check.due("hall() changes no more", Check.autopsy(hall).replaceFirst("fault 2 0 ", "").replace("tape 20", "").equals(kept), true);
        Check.due("mornings() no more", Check.autopsy(mornings).replaceFirst("fault 2 19 ", "").replace("tape 20", "").equals(kept), true);
    }

    @Says(of = 0, value = "Where a number may be below 0, STATUS tells NONE from -1.")
    static void statusTellsNoneFromMinusOne() {
        MurmurHall m = Check.of("place a;slate s at a;caller p at a;cry p 3 4;caller q at a;cry q 3 4;place b;way a b long 1;");
        m.tray(0, 3, 1);
        m.write(0, 0, -1);
        Check.done(m, "a number -1", m.read(0, 0), -1);
        Check.refused(m, "no number", m.read(0, 1), 3);
        m.walk(1, 1);
        Check.done(m, "one beat earlier", m.alike(0, 0, 1, 0), -1);
        m.hang(0, 1);
        m.teach(1, 5, 0, 0);
        Check.refused(m, "not alike", m.alike(0, 0, 1, 1), 6);
    }

    @Says(of = 0, value = {"1 a number that can't be; no such TRAY, PLACE, WAY, SLATE, CALLER, CRY, CALL", "2 the TRAY is MISSING.",
        "4 one too many. 5 a number in a TRAY that can't be. 6 there is none such. 7 it can't be. 8 TRAYS are of unlike sorts. 9 a FAULT. 0 else."})
    static void eachStatus() {
        MurmurHall m = Check.busy();
        Check.refused(m, "no such tray", m.read(4, 0), 1);
        Check.refused(m, "no such place", m.far(4, 0), 1);
        Check.refused(m, "no such way", m.way(3, 0), 1);
        Check.refused(m, "no such slate", m.slate(2), 1);
        Check.refused(m, "no such caller", m.caller(2, 0), 1);
        Check.refused(m, "no such cry", m.cry(0, 2, 0), 1);
        Check.refused(m, "no such call", m.call(1, 0), 1);
        Check.refused(m, "a set with what there is none of", m.parts(16), 1);
        Check.refused(m, "missing", m.read(3, 0), 2);
        Check.refused(m, "no such place of a tray", m.read(0, 3), 3);
        m.mark();
        Check.refused(m, "one too many", m.mark(), 4);
        Check.refused(m, "there is none such", m.far(0, 3), 6);
        Check.refused(m, "it can't be", m.walk(0, 0), 7);
        Check.refused(m, "unlike sorts", m.pour(0, 0, 1, 0, 1), 8);
        Check.refused(m, "a fault", m.hall(1), 9);
        Check.done(m, "else", m.told(5), 8);
    }

    @Says(of = 0, value = "The constants: `NONE = -1`: None.")
    static void noneIsMinusOne() {
        Check.due("NONE", MurmurHall.NONE, -1);
        Check.due("given", new MurmurHall().slate(0), -1);
    }

    // ---- promise 5

    @Says(of = 5, value = "A TRAY is a row of so many 0s (1).")
    static void trayNumbersAndSorts() {
        MurmurHall m = new MurmurHall();
        for (int tray : new int[] {LEAST, -1, 4, MOST}) Check.refused(m, "tray " + tray, m.tray(tray, 0, 1), 1);
        for (int sort : new int[] {LEAST, -1, 4, MOST}) Check.refused(m, "sort " + sort, m.tray(0, sort, 1), 1);
        for (int many : new int[] {LEAST, -1, 61, MOST}) Check.refused(m, "many " + many, m.tray(0, 0, many), 1);
        Check.refused(m, "it is missing still", m.read(0, 0), 2);
        for (int i = 0; i < 4; i++) Check.done(m, "tray and sort " + i, m.tray(i, i, 1));
    }

    @Says(of = 0, value = "TRAYS 0 to 3 are MISSING at first, or rows of 0 to 60 numbers of 8 bits (sort 0), 16 (1), 32 (2) or 64 (3).")
    static void traysOfNoneAndSixty() {
        MurmurHall m = new MurmurHall();
        Check.done(m, "of none", m.tray(0, 0, 0));
        Check.refused(m, "it has no place 0", m.read(0, 0), 3);
        Check.done(m, "of sixty", m.tray(1, 3, 60));
        for (int place = 0; place < 60; place++) Check.done(m, "a 0", m.read(1, place), 0);
        Check.refused(m, "it has no place 60", m.read(1, 60), 3);
    }

    @Says(of = 5, value = "A TRAY is a row of so many 0s")
    static void trayLaidAnew() {
        MurmurHall m = new MurmurHall();
        m.tray(2, 0, 3);
        for (int i = 0; i < 3; i++) m.write(2, i, 9);
        Check.done(m, "longer, of another sort", m.tray(2, 1, 4));
        for (int i = 0; i < 4; i++) Check.done(m, "a 0", m.read(2, i), 0);
        m.write(2, 0, 300);
        Check.done(m, "of 16 bits", m.read(2, 0), 300);
        Check.done(m, "shorter", m.tray(2, 1, 1));
        Check.done(m, "a 0", m.read(2, 0), 0);
        Check.refused(m, "no second", m.read(2, 1), 3);
        m.write(2, 0, 5);
        Check.refused(m, "refused", m.tray(2, 3, 61), 1);
        Check.done(m, "the old one stays", m.read(2, 0), 5);
    }

    // ---- promises 6, 7

    @Says(of = 6, value = "A number comes to a place of a TRAY, cut to its sort")
    static void writtenNumbersWrapAround() {
        MurmurHall m = new MurmurHall();
        for (int sort = 0; sort < 4; sort++) m.tray(sort, sort, 1);
        long[][] cut = {{0, 127, 127}, {0, 128, -128}, {0, 255, -1}, {0, 256, 0}, {0, -128, -128}, {0, -129, 127},
            {1, 32767, 32767}, {1, 32768, -32768}, {1, 65535, -1}, {1, 65536, 0}, {1, -32769, 32767},
            {2, 2147483647L, 2147483647L}, {2, 2147483648L, -2147483648L}, {2, 4294967296L, 0}, {2, -2147483649L, 2147483647L},
            {3, Long.MAX_VALUE, Long.MAX_VALUE}, {3, Long.MIN_VALUE, Long.MIN_VALUE}};
        for (long[] row : cut) {
            Check.done(m, "write " + row[1], m.write((int) row[0], 0, row[1]));
            Check.done(m, "it is " + row[2], m.read((int) row[0], 0), row[2]);
        }
    }

    @Says(of = 6, value = "(1, 2, 3)")
    static void writeBeyondTheTray() {
        MurmurHall m = new MurmurHall();
        m.tray(0, 0, 2);
        m.tray(1, 0, 2);
        for (int tray : new int[] {LEAST, -1, 4, MOST}) Check.refused(m, "no tray " + tray, m.write(tray, 0, 1), 1);
        for (int tray : new int[] {2, 3}) Check.refused(m, "missing " + tray, m.write(tray, 0, 1), 2);
        for (int place : new int[] {LEAST, -1, 2, 60, MOST}) Check.refused(m, "no place " + place, m.write(0, place, 1), 3);
        Check.done(m, "its first place", m.write(0, 0, 1));
        Check.done(m, "its last place", m.write(0, 1, 2));
        Check.done(m, "the next tray stays", m.read(1, 0), 0);
    }

    @Says(of = 7, value = "(1, 2, 3)")
    static void readBeyondTheTray() {
        MurmurHall m = new MurmurHall();
        m.tray(1, 0, 2);
        m.tray(3, 0, 60);
        for (int tray : new int[] {LEAST, -1, 4, MOST}) Check.refused(m, "no tray " + tray, m.read(tray, 0), 1);
        for (int tray : new int[] {0, 2}) Check.refused(m, "missing " + tray, m.read(tray, 0), 2);
        for (int place : new int[] {LEAST, -1, 2, 60, MOST}) Check.refused(m, "no place " + place, m.read(1, place), 3);
        Check.done(m, "its first", m.read(1, 0), 0);
        Check.done(m, "its last", m.read(1, 1), 0);
        Check.done(m, "the last of all", m.read(3, 59), 0);
    }

    @Says(of = 7, value = "STATUS tells NONE from -1")
    static void readMinusOne() {
        MurmurHall m = new MurmurHall();
        for (int sort = 0; sort < 4; sort++) {
            m.tray(sort, sort, 1);
            m.write(sort, 0, -1);
            Check.done(m, "-1 of sort " + sort, m.read(sort, 0), -1);
        }
    }

    // ---- promise 8

    private static MurmurHall poured() {
        MurmurHall m = new MurmurHall();
        m.tray(0, 2, 4);
        m.tray(1, 2, 2);
        m.tray(2, 3, 4);
        for (int i = 0; i < 4; i++) m.write(0, i, 5 + i);
        return m;
    }

    private static void row(MurmurHall m, int tray, long... due) {
        for (int i = 0; i < due.length; i++) Check.done(m, "place " + i + " of tray " + tray, m.read(tray, i), due[i]);
    }

    @Says(of = 8, value = "another one's (or its own) place on, as they were")
    static void pourOverItself() {
        MurmurHall up = poured();
        Check.done(up, "up", up.pour(0, 0, 0, 1, 3));
        row(up, 0, 5, 5, 6, 7);
        MurmurHall down = poured();
        Check.done(down, "down", down.pour(0, 1, 0, 0, 3));
        row(down, 0, 6, 7, 8, 8);
        MurmurHall same = poured();
        Check.done(same, "onto itself", same.pour(0, 0, 0, 0, 4));
        row(same, 0, 5, 6, 7, 8);
    }

    @Says(of = 8, value = "So many numbers of a TRAY, from a place on, come to another one's")
    static void pourNoneAndAll() {
        MurmurHall m = poured();
        Check.done(m, "none", m.pour(0, 0, 1, 0, 0));
        row(m, 1, 0, 0);
        Check.done(m, "none from behind the last", m.pour(0, 4, 1, 2, 0));
        Check.done(m, "as many as it takes", m.pour(0, 2, 1, 0, 2));
        row(m, 1, 7, 8);
        row(m, 0, 5, 6, 7, 8);
    }

    @Says(of = 8, value = "1: below 0, too")
    static void pourBelowNothing() {
        MurmurHall m = poured();
        for (int bad : new int[] {LEAST, -1}) {
            Check.refused(m, "place " + bad, m.pour(0, bad, 1, 0, 1), 1);
            Check.refused(m, "at " + bad, m.pour(0, 0, 1, bad, 1), 1);
            Check.refused(m, "many " + bad, m.pour(0, 0, 1, 0, bad), 1);
        }
        for (int bad : new int[] {LEAST, -1, 4, MOST}) {
            Check.refused(m, "from " + bad, m.pour(bad, 0, 1, 0, 1), 1);
            Check.refused(m, "to " + bad, m.pour(0, 0, bad, 0, 1), 1);
        }
        row(m, 1, 0, 0);
    }

    @Says(of = 8, value = "2; 8; 3; asked in this order")
    static void pourAskedInOrder() {
        MurmurHall m = poured();
        Check.refused(m, "below 0 ahead of missing", m.pour(3, -1, 0, 0, 1), 1);
        Check.refused(m, "from missing, ahead of too few", m.pour(3, 0, 0, 0, 9), 2);
        Check.refused(m, "to missing, ahead of too few", m.pour(0, 0, 3, 0, 9), 2);
        Check.refused(m, "unlike ahead of too few", m.pour(0, 0, 2, 0, 9), 8);
        Check.refused(m, "unlike though none are poured", m.pour(0, 0, 2, 0, 0), 8);
        Check.refused(m, "too few", m.pour(0, 0, 0, 0, 9), 3);
    }

    @Says(of = 0, value = "3 a place that the TRAY has not, or too few numbers.")
    static void pourOfTooFew() {
        MurmurHall m = poured();
        Check.refused(m, "one too many there", m.pour(0, 0, 1, 0, 3), 3);
        Check.refused(m, "one too many there", m.pour(0, 0, 1, 1, 2), 3);
        Check.refused(m, "one too many here", m.pour(1, 1, 0, 0, 2), 3);
        Check.refused(m, "one too many here", m.pour(1, 2, 0, 0, 1), 3);
        Check.refused(m, "past the greatest int", m.pour(0, MOST, 0, 0, 1), 3);
        Check.refused(m, "past the greatest int", m.pour(0, 0, 0, MOST, MOST), 3);
        Check.refused(m, "past the greatest int", m.pour(0, 1, 0, 1, MOST), 3);
        row(m, 0, 5, 6, 7, 8);
        row(m, 1, 0, 0);
    }

    // ---- promise 9

    @Says(of = 9, value = "how many it has; NONE if there would be more than 900")
    static void feedUpToNineHundred() {
        MurmurHall m = new MurmurHall();
        for (int i = 1; i <= 45; i++) Check.due("feed " + i, m.feed(0x20202020, 0x20202020, 0x20202020, 0x20202020, 0x20202020), 20 * i);
        Check.due("a 46th", m.feed(0x21212121, 0x21212121, 0x21212121, 0x21212121, 0x21212121), NONE);
        Check.due("a 47th", m.feed(0, 0, 0, 0, 0), NONE);
        Check.done(m, "nothing of them came to the tape", m.hall(900), 0);
        Check.due("empty again", m.feed(0, 0, 0, 0, 0), 20);
    }

    @Says(of = 9, value = "Twenty bytes come behind those on the tape, the highest of each int first")
    static void feedHighestByteFirst() {
        MurmurHall m = new MurmurHall();
        // "plac" "e a;" "odds" " 16;" and blanks; then "plac" "e b;" behind them
        m.feed(0x706c6163, 0x6520613b, 0x6f646473, 0x2031363b, 0x200a200a);
        Check.due("behind it", m.feed(0x706c6163, 0x6520623b, 0, 0, 0), 40);
        Check.done(m, "both", m.hall(28), 0);
        Check.done(m, "its places", m.told(0), 2);
        Check.done(m, "its odds", m.told(5), 16);
        m.feed(0x20202020, 0x202020ff, 0, 0, 0);
        Check.refused(m, "a byte of 255 is the last of its int", m.hall(8), 9);
        Check.due("its place", m.fault(1), 7);
    }

    // ---- promises 13 to 18

    @Says(of = 13, value = "have together (7) (1).")
    static void toldBeyondSeven() {
        MurmurHall m = Check.market();
        for (int what : new int[] {LEAST, -1, 8, MOST}) Check.refused(m, "told " + what, m.told(what), 1);
    }

    @Says(of = 13, value = "How many PLACES (what 0), WAYS (1), SLATES (2), CALLERS (3), CALLS (4); ODDS (5)")
    static void toldOfNoneAndOfAFullHall() {
        MurmurHall m = Check.of(FULL);
        int[] most = {7, 10, 4, 5, 8, 16, 0, 3};
        for (int what = 0; what < 8; what++) Check.done(m, "full, told " + what, m.told(what), most[what]);
        m = Check.of("");
        int[] none = {0, 0, 0, 0, 0, 4, 0, 0};
        for (int what = 0; what < 8; what++) Check.done(m, "empty, told " + what, m.told(what), none[what]);
    }

    @Says(of = 13, value = "1 if something is RECORDED, else 0 (6)")
    static void toldOfARecordOfNothing() {
        MurmurHall m = new MurmurHall();
        Check.done(m, "ahead of it", m.told(6), 0);
        Check.done(m, "a day without slates", m.record(), 0);
        Check.done(m, "is recorded", m.told(6), 1);
        Check.done(m, "a new hall", m.hall(0), 0);
        Check.done(m, "is not", m.told(6), 0);
    }

    @Says(of = 13, value = "how many CRIES all CALLERS have together (7)")
    static void toldOfFifteenCries() {
        MurmurHall m = Check.of("place a;caller p at a;caller q at a;caller r at a;caller s at a;caller t at a;");
        Check.done(m, "none", m.told(7), 0);
        for (int i = 0; i < 15; i++) {
            Check.done(m, "teach", m.teach(i % 5, 1 + i, 0, 0), i / 5);
            Check.done(m, "together", m.told(7), 1 + i);
        }
    }

    @Says(of = 14, value = "Of a WAY, what 0: one PLACE, 1: the other one, 2: LONG, 3: LOSS (1).")
    static void wayBeyondTheWays() {
        MurmurHall m = Check.market();
        for (int way : new int[] {LEAST, -1, 3, MOST}) Check.refused(m, "way " + way, m.way(way, 0), 1);
        for (int what : new int[] {LEAST, -1, 4, MOST}) Check.refused(m, "what " + what, m.way(0, what), 1);
        int[] last = {0, 2, 3, 0};
        for (int what = 0; what < 4; what++) Check.done(m, "the last way", m.way(2, what), last[what]);
        MurmurHall full = Check.of(FULL);
        int[] tenth = {0, 1, 9, 9};
        for (int what = 0; what < 4; what++) Check.done(full, "the tenth", full.way(9, what), tenth[what]);
        Check.refused(full, "an eleventh", full.way(10, 0), 1);
    }

    @Says(of = 15, value = "The PLACE of a SLATE (1).")
    static void slateBeyondTheSlates() {
        MurmurHall m = Check.market();
        for (int slate : new int[] {LEAST, -1, 2, MOST}) Check.refused(m, "slate " + slate, m.slate(slate), 1);
        MurmurHall full = Check.of(FULL);
        Check.done(full, "the first", full.slate(0), 6);
        Check.done(full, "the fourth", full.slate(3), 5);
        Check.refused(full, "a fifth", full.slate(4), 1);
    }

    @Says(of = 16, value = "Of a CALLER, what 0: the PLACE, 1: how many CRIES (1).")
    static void callerBeyondTheCallers() {
        MurmurHall m = Check.market();
        for (int caller : new int[] {LEAST, -1, 2, MOST}) Check.refused(m, "caller " + caller, m.caller(caller, 0), 1);
        for (int what : new int[] {LEAST, -1, 2, MOST}) Check.refused(m, "what " + what, m.caller(0, what), 1);
        MurmurHall full = Check.of(FULL);
        Check.done(full, "without cries", full.caller(0, 1), 0);
        Check.done(full, "with three", full.caller(4, 1), 3);
        Check.refused(full, "a sixth", full.caller(5, 0), 1);
    }

    @Says(of = 17, value = "A number of a CRY of a CALLER (0 on) (1; 6: it has not so many).")
    static void cryBeyondItsNumbers() {
        MurmurHall m = Check.market();
        for (int caller : new int[] {LEAST, -1, 2, MOST}) Check.refused(m, "caller " + caller, m.cry(caller, 0, 0), 1);
        for (int cry : new int[] {LEAST, -1, 2, MOST}) Check.refused(m, "cry " + cry, m.cry(0, cry, 0), 1);
        Check.refused(m, "a cry that another one has", m.cry(1, 1, 0), 1);
        for (int i : new int[] {LEAST, -1}) Check.refused(m, "number " + i, m.cry(0, 0, i), 1);
        for (int i : new int[] {2, 3, 4, MOST}) Check.refused(m, "number " + i, m.cry(0, 0, i), 6);
        Check.refused(m, "of one alone the second", m.cry(0, 1, 1), 6);
        Check.refused(m, "of three a fourth", m.cry(1, 0, 3), 6);
        MurmurHall full = Check.of(FULL);
        Check.refused(full, "a sixth caller's", full.cry(5, 0, 0), 1);
        Check.done(m, "the first", m.cry(0, 0, 0), 9);
        Check.done(m, "the second", m.cry(0, 0, 1), 5);
        Check.done(m, "the third", m.cry(1, 0, 2), 2);
    }

    @Says(of = 0, value = "no such TRAY, PLACE, WAY, SLATE, CALLER, CRY, CALL")
    static void whatAnOlderHallHadIsNoSuch() {
        MurmurHall m = Check.of(FULL);
        m.record();
        Check.hall(m, "place a;slate s at a;caller p at a;");
        m.record();
        Check.refused(m, "place", m.far(0, 1), 1);
        Check.refused(m, "way", m.way(0, 0), 1);
        Check.refused(m, "slate", m.heard(1, 0), 1);
        Check.refused(m, "caller", m.walk(4, 0), 1);
        Check.refused(m, "cry of an old caller", m.cry(4, 0, 0), 1);
        Check.refused(m, "cry of an old caller", m.say(4, 0, 0), 1);
        Check.refused(m, "cry of an old caller", m.with(4, 4, 0, 0), 1);
        Check.refused(m, "cries of an old caller", m.alike(4, 0, 4, 1), 1);
        Check.refused(m, "call", m.call(0, 0), 1);
        m = Check.of("place a;caller p at a;caller q at a;cry q 5;");
        Check.hall(m, "place a;caller p at a;");
        Check.refused(m, "the next one's cry", m.cry(1, 0, 0), 1);
        Check.refused(m, "the next one's cry", m.say(1, 0, 0), 1);
    }

    @Says(of = 18, value = "Of a CALL, what 0: the CALLER, 1: the CRY, 2: the BEAT (1).")
    static void callBeyondTheCalls() {
        MurmurHall m = Check.market();
        for (int call : new int[] {LEAST, -1, 2, MOST}) Check.refused(m, "call " + call, m.call(call, 0), 1);
        for (int what : new int[] {LEAST, -1, 3, MOST}) Check.refused(m, "what " + what, m.call(0, what), 1);
        MurmurHall full = Check.of(FULL);
        int[] eighth = {4, 2, 20};
        for (int what = 0; what < 3; what++) Check.done(full, "the eighth", full.call(7, what), eighth[what]);
        Check.refused(full, "a ninth", full.call(8, 0), 1);
    }
}
