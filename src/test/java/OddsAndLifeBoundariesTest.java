/** Boundary cases of CHANCE and HUSH, and of MORNINGS that are LIVED (promises 51 to 55). */
public final class OddsAndLifeBoundariesTest {
    private static final int LEAST = Integer.MIN_VALUE;
    private static final int MOST = Integer.MAX_VALUE;
    private static final String ONE = "place a;place b;slate s at a;caller p at a;cry p 5;cry p 6 7;";

    public static void main(String[] args) { Boundaries.run(OddsAndLifeBoundariesTest.class); }

    private static void chance(MurmurHall m, int beat, int k, long top, long bottom) {
        Check.done(m, "chance of " + k + " in " + beat, m.chance(0, beat, k));
        Check.fraction(m, "chance of " + k + " in " + beat, top, bottom);
    }

    private static void quiet(MurmurHall m, long top, long bottom) {
        Check.done(m, "quiet", m.quiet(0));
        Check.fraction(m, "quiet", top, bottom);
    }

    // ---- promises 51, 52

    @Says(of = 51, value = "The FRACTION is CHANCE (BEAT 0 to 90, k 0 to 999) (1).")
    static void chanceAtTheLimits() {
        MurmurHall m = Check.market();
        for (int slate : new int[] {LEAST, -1, 2, 4, MOST}) Check.refused(m, "slate " + slate, m.chance(slate, 0, 0), 1);
        for (int beat : new int[] {LEAST, -1, 91, MOST}) Check.refused(m, "beat " + beat, m.chance(0, beat, 0), 1);
        for (int k : new int[] {LEAST, -1, 1000, MOST}) Check.refused(m, "k " + k, m.chance(0, 0, k), 1);
        Check.fraction(m, "none was told", 0, 1);
        chance(m, 0, 0, 1, 1);
        chance(m, 0, 999, 0, 1);
        chance(m, 90, 0, 1, 1);
        chance(m, 90, 1, 0, 1);
    }

    @Says(of = 0, value = "CHANCE of a SLATE, a BEAT and k: the odds that the SUM is k or more then")
    static void chanceOfJustKAndOneMore() {
        MurmurHall m = Check.of("odds 4;place a;slate s at a;caller p at a;cry p 5;cry p 3;call p 0 at 0;call p 1 at 0;");
        chance(m, 0, 1, 15, 16);
        chance(m, 0, 3, 15, 16);
        chance(m, 0, 4, 3, 4);
        chance(m, 0, 5, 3, 4);
        chance(m, 0, 6, 9, 16);
        chance(m, 0, 8, 9, 16);
        chance(m, 0, 9, 0, 1);
        m = Check.of(ONE);
        chance(m, 0, 0, 1, 1);
        chance(m, 0, 1, 0, 1);
    }

    @Says(of = 0, value = "Each CALL that there is is lost by ODDS sixteenths, each by itself")
    static void chanceByTheLeastAndTheMostOdds() {
        MurmurHall m = Check.of("odds 0;place a;slate s at a;caller p at a;cry p 5;call p 0 at 0;");
        chance(m, 0, 5, 1, 1);
        chance(m, 0, 6, 0, 1);
        m.rule(16);
        chance(m, 0, 1, 0, 1);
        chance(m, 0, 0, 1, 1);
        m.rule(1);
        chance(m, 0, 5, 15, 16);
        m.rule(15);
        chance(m, 0, 5, 1, 16);
        m.say(0, 0, 9);
        chance(m, 0, 5, 1, 16);
    }

    @Says(of = 51, value = "The FRACTION is CHANCE")
    static void chanceOfEightCalls() {
        MurmurHall m = Check.of("odds 15;place a;slate s at a;caller p at a;caller q at a;caller r at a;cry p 1 1 1;cry q 1 1 1;cry r 1 1 1;"
            + "call p 0 at 0;call p 0 at 1;call p 0 at 2;call q 0 at 0;call q 0 at 1;call q 0 at 2;call r 0 at 0;call r 0 at 1;");
        chance(m, 2, 8, 1, 1L << 32);
        chance(m, 2, 7, 121, 1L << 32);
        chance(m, 2, 1, (1L << 32) - 2562890625L, 1L << 32);
        chance(m, 2, 9, 0, 1);
    }

    @Says(of = 52, value = "The FRACTION is HUSH of a SLATE (1).")
    static void quietOfNoSlate() {
        MurmurHall m = Check.market();
        for (int slate : new int[] {LEAST, -1, 2, 4, MOST}) Check.refused(m, "slate " + slate, m.quiet(slate), 1);
        Check.fraction(m, "none was told", 0, 1);
        quiet(m, 1, 4);
    }

    @Says(of = 0, value = "HUSH of a SLATE: that no number above 0 is HEARD on it at all.")
    static void quietByNoneAndByEight() {
        MurmurHall m = Check.of(ONE);
        quiet(m, 1, 1);
        for (int i = 0; i < 8; i++) m.say(0, 0, i);
        m.rule(1);
        quiet(m, 1, 1L << 32);
        m.rule(15);
        quiet(m, 2562890625L, 1L << 32);
        m.rule(0);
        quiet(m, 0, 1);
        m.rule(16);
        quiet(m, 1, 1);
        m.rule(1);
        m.walk(0, 1);
        quiet(m, 1, 1);
    }

    @Says(of = 0, value = "that no number above 0 is HEARD on it at all")
    static void quietThoughSomethingIsSaid() {
        MurmurHall m = Check.of("odds 2;place a;place b;way a b long 1 loses 5;slate s at b;caller p at a;cry p 5 5 5;cry p 5 5 6;cry p 1;"
            + "call p 0 at 0;call p 2 at 0;");
        quiet(m, 1, 1);
        m.say(0, 1, 0);
        quiet(m, 1, 8);
    }

    // ---- promises 53, 54

    private static void lived(MurmurHall m, int... due) {
        for (int what = 0; what < due.length; what++) Check.done(m, "lived " + what, m.lived(what), due[what]);
    }

    /** MORNINGS of a HALL, lived once by seed 0: how many STEPS, then MISSED, said, struck, walked, left. */
    private static MurmurHall life(String hall, String text, int steps, int... due) {
        MurmurHall m = Check.of(hall);
        if (Check.mornings(m, text) == MurmurHall.NONE) Check.broken("mornings [" + text + "] were not taken");
        Check.done(m, "steps of [" + text + "]", m.live(0), steps);
        lived(m, due);
        return m;
    }

    @Says(of = 53, value = "LIVED: how many STEPS were done (1; 6: no MORNINGS).")
    static void liveBySeedsAtTheLimits() {
        MurmurHall m = Check.market();
        Check.refused(m, "no mornings", m.live(0), 6);
        Check.mornings(m, "any;");
        for (int seed : new int[] {LEAST, -1, 10000, MOST}) Check.refused(m, "seed " + seed, m.live(seed), 1);
        Check.refused(m, "none was lived", m.lived(0), 6);
        Check.done(m, "none was said", m.told(4), 2);
        Check.done(m, "the first seed", m.live(0), 1);
        Check.done(m, "the last seed", m.live(9999), 1);
        Check.hall(m, "");
        Check.refused(m, "no mornings any more", m.live(0), 6);
    }

    @Says(of = 54, value = "(1; 6: there was none)")
    static void livedOfNoSuch() {
        MurmurHall m = Check.market();
        for (int what = 0; what < 5; what++) Check.refused(m, "none was lived", m.lived(what), 6);
        Check.mornings(m, "hush;");
        Check.refused(m, "none yet", m.lived(0), 6);
        m.mean(0, 20);
        Check.refused(m, "the mean is none", m.lived(0), 6);
        m.live(0);
        for (int what : new int[] {LEAST, -1, 5, MOST}) Check.refused(m, "what " + what, m.lived(what), 1);
        lived(m, 0, 0, 1, 0, 0);
    }

    @Says(of = 54, value = "Of live() latest with STATUS 0")
    static void livedOfTheLatest() {
        MurmurHall m = Check.market();
        Check.mornings(m, "hush;walk p d;say q 0 9;");
        m.live(0);
        lived(m, 0, 1, 1, 1, 0);
        Check.refused(m, "refused", m.live(-1), 1);
        m.mean(0, 3);
        Check.hall(m, "place a;");
        Check.refused(m, "refused", m.live(0), 6);
        lived(m, 0, 1, 1, 1, 0);
        Check.mornings(m, "hush;");
        m.live(0);
        lived(m, 1, 0, 0, 0, 0);
        Check.mornings(m, "");
        Check.done(m, "no steps at all", m.live(0), 0);
        lived(m, 0, 0, 0, 0, 0);
        Check.mornings(m, "loop 99;loop 99;record;end;end;");
        Check.done(m, "too many", m.live(0), 300);
        lived(m, 0, 0, 0, 0, 1);
        Check.mornings(m, "record;");
        Check.done(m, "just one", m.live(0), 1);
        lived(m, 0, 0, 0, 0, 0);
    }

    @Says(of = 54, value = "what 0: MISSED, 1: how many CALLS were said, 2: struck, 3: how often one walked")
    static void livedCountsEach() {
        MurmurHall m = life(ONE, "say p 0 1;say p 0 2;say p 0 3;say p 0 4;hush;hush;hush;walk p b;walk p a;hush;hush;", 11, 1, 4, 4, 2, 0);
        Check.done(m, "none is left", m.told(4), 0);
        Check.done(m, "he is back", m.caller(0, 0), 0);
    }

    @Says(of = 0, value = "What can't be is MISSED: a CALL (by any, too) of a CRY that there is not")
    static void missedCryThatThereIsNot() {
        life(ONE, "say p 2 0;", 1, 1, 0, 0, 0, 0);
        life(ONE, "say p 1 0;", 1, 0, 1, 0, 0, 0);
        life("place a;caller p at a;", "say p 0 0;", 1, 1, 0, 0, 0, 0);
        MurmurHall m = life("place a;caller p at a;", "any;any;any;", 3, 3, 0, 0, 0, 0);
        Check.done(m, "none was said", m.told(4), 0);
    }

    @Says(of = 0, value = "of a CRY that there is not, that is told, a ninth one")
    static void missedCallThatIsTold() {
        life(ONE + "call p 0 at 20;", "say p 0 20;say p 0 19;say p 0 19;", 3, 2, 1, 0, 0, 0);
        // the first any by seed 0 draws, of one caller, cry 2 in beat 8
        String three = "place a;caller p at a;cry p 1;cry p 2;cry p 3;";
        life(three, "any;", 1, 0, 1, 0, 0, 0);
        life(three + "call p 2 at 8;", "any;", 1, 1, 0, 0, 0, 0);
        life(three + "call p 2 at 7;", "any;", 1, 0, 1, 0, 0, 0);
    }

    @Says(of = 0, value = "a ninth one")
    static void missedNinthCall() {
        StringBuilder eight = new StringBuilder(ONE);
        for (int i = 0; i < 8; i++) eight.append("call p 0 at ").append(i).append(';');
        life(eight.toString(), "say p 0 20;", 1, 1, 0, 0, 0, 0);
        MurmurHall m = life(eight.toString(), "hush;say p 0 20;say p 0 19;", 3, 1, 1, 1, 0, 0);
        Check.done(m, "the eighth", m.call(7, 2), 20);
        m = life(eight.toString(), "loop 99;any;end;", 100, 99, 0, 0, 0, 0);
        Check.done(m, "eight are there", m.told(4), 8);
    }

    @Says(of = 0, value = {"hush: the last CALL is struck", "a hush without CALLS"})
    static void missedHush() {
        life(ONE, "hush;", 1, 1, 0, 0, 0, 0);
        life(ONE + "call p 0 at 0;", "hush;hush;", 2, 1, 0, 1, 0, 0);
        MurmurHall m = life(ONE + "call p 0 at 3;call p 0 at 4;call p 0 at 5;", "hush;", 1, 0, 0, 1, 0, 0);
        Check.done(m, "the last one", m.call(1, 2), 4);
        Check.refused(m, "is struck", m.call(2, 2), 1);
    }

    @Says(of = 0, value = "a walk to where he is")
    static void missedWalk() {
        MurmurHall m = life(ONE, "walk p a;walk p b;walk p b;", 3, 2, 0, 0, 1, 0);
        Check.done(m, "he is there", m.caller(0, 0), 1);
    }

    @Says(of = 0, value = "any without CALLERS (no draws)")
    static void missedAnyWithoutCallers() {
        life("", "any;", 1, 1, 0, 0, 0, 0);
        life("place a;slate s at a;", "any;any;", 2, 2, 0, 0, 0, 0);
    }

    @Says(of = 0, value = {"any: a CALLER by a draw by how many there are says a CRY by a draw by 3 AT a BEAT by a draw by 21 (all three first)",
        "LIVED by a seed (0 to 9,999): all is as it is then.",
        "Draws: s, at first the seed, becomes what is left of s times 3,203 and 11,437 by 65,536; the draw by n is the rest of s by 8, rounded "
            + "down, by n."})
    static void drawsWrapAround() {
        String hall = "place a;caller p at a;caller q at a;cry p 1;cry p 2;cry p 3;cry q 4;cry q 5;cry q 6;";
        // by 0: s is 11437, 9524, 42569; by 9999: 56666, 43451, 52062
        int[][] byHand = {{0, 1, 2, 8}, {9999, 1, 1, 18}};
        for (int[] row : byHand) {
            MurmurHall m = Check.of(hall);
            Check.mornings(m, "any;");
            m.live(row[0]);
            for (int what = 0; what < 3; what++) Check.done(m, "seed " + row[0], m.call(0, what), row[1 + what]);
        }
        MurmurHall m = Check.of("place a;caller p at a;caller q at a;cry q 4;cry q 5;cry q 6;");
        Check.mornings(m, "loop 20;any;end;");
        m.live(9999);
        long last = 9999;
        int said = 0;
        for (int turn = 0; turn < 20 && said < 8; turn++) {
            int[] drawn = new int[3];
            for (int i = 0; i < 3; i++) {
                last = (last * 3203 + 11437) % 65536;
                drawn[i] = (int) (last / 8 % (i == 0 ? 2 : i == 1 ? 3 : 21));
            }
            if (drawn[0] == 1) {
                // a caller without cries draws all three, too, so the next one's draws are not his
                for (int what = 0; what < 3; what++) Check.due("drawn", m.call(said, what), drawn[what]);
                said++;
            }
        }
    }

    @Says(of = 0, value = "loop n (1 to 99): as often.")
    static void loopsOnceAndNinetyNineTimes() {
        life(ONE, "loop 1;record;end;", 2, 0, 0, 0, 0, 0);
        life(ONE, "loop 99;record;end;", 100, 0, 0, 0, 0, 0);
        life(ONE, "loop 2;loop 3;record;end;loop 2;record;end;end;", 1 + 2 * (1 + 3 + 1 + 2), 0, 0, 0, 0, 0);
        life(ONE, "loop 2;loop 2;loop 2;record;end;end;end;", 1 + 2 * (1 + 2 * (1 + 2)), 0, 0, 0, 0, 0);
        life(ONE, "loop 99;end;", 1, 0, 0, 0, 0, 0);
        life(ONE, "loop 99;end;walk p b;loop 1;end;walk p a;", 4, 0, 0, 0, 2, 0);
        life(ONE, "loop 2;loop 99;end;hush;end;", 5, 2, 0, 0, 0, 0);
    }

    @Says(of = 0, value = "At most 300 STEPS (when, loop count as one each time they are come to from ahead; end does not).")
    static void threeHundredSteps() {
        String most = "loop 99;record;record;end;loop 99;record;end;";
        life(ONE, most, 299, 0, 0, 0, 0, 0);
        life(ONE, most + "walk p b;", 300, 0, 0, 0, 1, 0);
        life(ONE, most + "walk p b;walk p a;", 300, 0, 0, 0, 1, 1);
        life(ONE, most + "loop 9;walk p b;end;", 300, 0, 0, 0, 0, 1);
        life(ONE, most + "loop 9;end;", 300, 0, 0, 0, 0, 0);
        life(ONE, most + "when calls=0;end;", 300, 0, 0, 0, 0, 0);
        life(ONE, most + "when calls=0;walk p b;end;", 300, 0, 0, 0, 0, 1);
        life(ONE, most + "when calls=1;walk p b;end;", 300, 0, 0, 0, 0, 0);
        life(ONE, most + "when calls=1;walk p b;end;walk p b;", 300, 0, 0, 0, 0, 1);
        life(ONE, "loop 99;when calls=0;record;end;end;", 199, 0, 0, 0, 0, 0);
        life(ONE, "loop 99;loop 1;record;end;end;", 199, 0, 0, 0, 0, 0);
        life(ONE, "loop 99;loop 99;loop 99;hush;end;end;end;", 300, 297 - 3 + 1, 0, 0, 0, 1);
    }

    @Says(of = 54, value = "4: 1 if a STEP was left to be done, else 0")
    static void stepsLeftBehindAStop() {
        String most = "loop 99;record;record;end;loop 99;record;end;";
        life(ONE, most + "stop;walk p b;", 300, 0, 0, 0, 0, 0);
        life(ONE, most + "record;stop;", 300, 0, 0, 0, 0, 1);
        life(ONE, "stop;walk p b;", 1, 0, 0, 0, 0, 0);
        life(ONE, "loop 9;when calls=0;stop;end;end;walk p b;", 3, 0, 0, 0, 0, 0);
    }

    @Says(of = 0, value = "TEST: heard NAME NUMBER COMPARES NUMBER, or at NAME NAME, or calls COMPARES NUMBER.")
    static void testsAtTheirBoundaries() {
        String hall = ONE + "call p 0 at 0;call p 1 at 20;";
        String[] hold = {"heard s 0=5", "heard s 0>4", "heard s 0<6", "heard s 90=0", "heard s 90<1", "heard s 21=7", "heard s 0<999",
            "calls=2", "calls>1", "calls<3", "calls>0", "calls<8", "at p a"};
        String[] fail = {"heard s 0=4", "heard s 0>5", "heard s 0<5", "heard s 90>0", "heard s 90<0", "heard s 0>999", "calls=3", "calls>2",
            "calls<2", "calls=8", "calls=0", "calls<0", "at p b"};
        for (String test : hold) life(hall, "when " + test + ";record;end;", 2, 0, 0, 0, 0, 0);
        for (String test : fail) life(hall, "when " + test + ";record;end;", 1, 0, 0, 0, 0, 0);
        life(ONE, "loop 8;any;any;any;any;end;when calls=8;record;end;", 35, 24, 8, 0, 0, 0);
    }

    @Says(of = 53, value = "LIVED: how many STEPS were done")
    static void liveOnWhereTheLastOneEnded() {
        MurmurHall m = Check.of(ONE);
        Check.mornings(m, "say p 0 3;record;walk p b;");
        Check.done(m, "once", m.live(0), 3);
        Check.done(m, "recorded ahead of the walk", m.recorded(0, 3), 5);
        lived(m, 0, 1, 0, 1, 0);
        Check.done(m, "once more", m.live(0), 3);
        lived(m, 2, 0, 0, 0, 0);
        Check.done(m, "recorded anew", m.recorded(0, 3), 0);
    }

    // ---- promise 55

    @Says(of = 55, value = "by so many seeds (1 to 20) from one on (1: the last above 9,999, too; 6: no MORNINGS)")
    static void meanAtTheLimits() {
        MurmurHall m = Check.market();
        Check.refused(m, "no mornings", m.mean(0, 1), 6);
        Check.mornings(m, "any;");
        for (int seed : new int[] {LEAST, -1, 10000, MOST}) Check.refused(m, "seed " + seed, m.mean(seed, 1), 1);
        for (int many : new int[] {LEAST, -1, 0, 21, MOST}) Check.refused(m, "many " + many, m.mean(0, many), 1);
        Check.refused(m, "the last above", m.mean(9999, 2), 1);
        Check.refused(m, "the last above", m.mean(9981, 20), 1);
        Check.refused(m, "past the greatest int", m.mean(MOST, 20), 1);
        Check.refused(m, "past the greatest int", m.mean(9999, MOST), 1);
        Check.fraction(m, "none was told", 0, 1);
        Check.done(m, "the first alone", m.mean(0, 1));
        Check.done(m, "the last alone", m.mean(9999, 1));
        Check.done(m, "twenty up to the last", m.mean(9980, 20));
        Check.done(m, "twenty from the first on", m.mean(0, 20));
    }

    @Says(of = 55, value = "The FRACTION is the mean of all SUMS on all SLATES together behind the MORNINGS")
    static void meanOfSilenceAndOfTheLastSeeds() {
        MurmurHall m = Check.of(ONE);
        Check.mornings(m, "");
        Check.done(m, "mean of nothing", m.mean(0, 20));
        Check.fraction(m, "nothing", 0, 1);
        Check.mornings(m, "say p 0 0;say p 1 20;");
        Check.done(m, "mean", m.mean(9980, 20));
        Check.fraction(m, "each the same", 18, 1);
        Check.mornings(m, "loop 3;any;end;");
        int together = 0;
        for (int seed = 9980; seed <= 9999; seed++) {
            m.mark();
            m.live(seed);
            together += m.all(0);
            m.undo();
        }
        Check.done(m, "mean", m.mean(9980, 20));
        Check.due("the last twenty", m.top() * 20, together * m.bottom());
        Check.due("cut down", m.bottom() <= 20 && 20 % m.bottom() == 0, true);
    }

    @Says(of = 55, value = "all stays as it is")
    static void meanChangesNothing() {
        MurmurHall m = Check.busy();
        Check.done(m, "mean", m.mean(0, 20));
        MurmurHall n = Check.busy();
        String before = Check.autopsy(n);
        String behind = Check.autopsy(m);
        Check.due("but the fraction", behind.substring(behind.indexOf("fault")).equals(before.substring(before.indexOf("fault"))), true);
    }
}
