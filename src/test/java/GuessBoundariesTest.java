/** Boundary cases of ANSWERS, SLIPS, MOVED, ALIKE and HANGING (promises 39 to 50). */
public final class GuessBoundariesTest {
    private static final int NONE = MurmurHall.NONE;
    private static final int LEAST = Integer.MIN_VALUE;
    private static final int MOST = Integer.MAX_VALUE;
    /** One place, one slate, one caller whose cry is 5. */
    private static final String FIVE = "place a;slate s at a;caller p at a;cry p 5;";
    /** One place, one slate; the fifth caller's third cry is 7, all others are silent where they stand. */
    private static final String LAST_CALLER = "place a;place b;slate s at a;caller p at b;caller q at b;caller r at b;caller t at b;"
        + "caller u at a;cry p 7;cry q 7;cry r 7;cry t 7;cry u 90;cry u 91;cry u 7;";

    public static void main(String[] args) { Boundaries.run(GuessBoundariesTest.class); }

    private static MurmurHall recorded(String text) {
        MurmurHall m = Check.of(text);
        m.record();
        return m;
    }

    private static void answers(MurmurHall m, int... due) {
        for (int n = 0; n <= 4; n++) Check.done(m, "answers for " + n, m.answers(n), due[n]);
    }

    private static void firstAnswer(MurmurHall m, int n, int... due) {
        for (int k = 0; k < due.length; k++) Check.done(m, "call " + k + " of the first for " + n, m.answerAt(n, k), due[k]);
        Check.refused(m, "no more for " + n, m.answerAt(n, due.length), 6);
    }

    private static void slipped(MurmurHall m, int n, int slips, int... due) {
        Check.done(m, "slips for " + n, m.slips(n), slips);
        for (int k = 0; k < due.length; k++) Check.done(m, "call " + k + " of slips for " + n, m.slipsAt(n, k), due[k]);
        Check.refused(m, "no more slips for " + n, m.slipsAt(n, due.length), 6);
    }

    // ---- ==== 3. and promise 39

    @Says(of = 0, value = "The number of a CALL: CALLER times 63, CRY times 21 and BEAT, together.")
    static void numbersOfTheFirstAndTheLastCall() {
        MurmurHall m = recorded(FIVE);
        m.scrawl(0, 0, 5);
        firstAnswer(m, 1, 0);
        m = recorded(LAST_CALLER);
        m.scrawl(0, 20, 7);
        firstAnswer(m, 1, 4 * 63 + 2 * 21 + 20);
        slipped(m, 1, 0, 314);
        slipped(m, 2, 0, 314);
    }

    @Says(of = 0, value = "LOUD is a CALL of which some number is HEARD above 0 on a SLATE.")
    static void onlyLoudCallsAnswer() {
        MurmurHall m = recorded("place a;place b;place c;way a b long 1 loses 9;slate s at b;caller p at a;cry p 9;cry p 9 9 9;cry p 9 9 10;"
            + "caller q at c;cry q 50;");
        answers(m, 1, 1, 1, 1, 1);
        slipped(m, 2, 0);
        Check.done(m, "a silent one", m.with(4, 0, 0, 0), 0);
        Check.done(m, "one that none can hear", m.with(4, 1, 0, 0), 0);
        m.scrawl(0, 3, 1);
        answers(m, 0, 1, 1, 1, 1);
        firstAnswer(m, 4, 2 * 21);
        Check.done(m, "its last number alone is heard", m.with(4, 0, 2, 0), 1);
        slipped(m, 2, 0, 2 * 21);
        m.hang(0, 2);
        answers(m, 0, 0, 0, 0, 0);
        slipped(m, 2, 1);
        // those that were loud a while ago come first by number, but are silent now
        m = recorded("place a;place b;slate s at a;caller p at a;cry p 3;cry p 4;caller q at a;cry q 5;");
        m.scrawl(0, 2, 5);
        slipped(m, 2, 0, 65);
        m.walk(0, 1);
        slipped(m, 2, 0, 65);
        firstAnswer(m, 4, 65);
    }

    @Says(of = 0, value = "CRIES of a CALLER, at most 3, in order")
    static void criesOfAnOlderHallDoNotAnswer() {
        MurmurHall m = recorded("place a;slate s at a;caller p at a;cry p 5;cry p 6;caller q at a;cry q 7;");
        Check.done(m, "parted", m.parts(1), 1);
        Check.hall(m, "place a;slate s at a;caller p at a;cry p 1;");
        m.record();
        for (int number = 5; number <= 7; number++) {
            m.scrawl(0, 3, number);
            answers(m, 0, 0, 0, 0, 0);
            slipped(m, 2, 1);
        }
        Check.done(m, "nor need they be parted", m.hanging(), 0);
        Check.done(m, "nor here", m.parts(0), 1);
    }

    @Says(of = 0, value = "An ANSWER for n (0 to 4): n or fewer LOUD CALLS")
    static void nOrFewer() {
        MurmurHall m = recorded(FIVE);
        answers(m, 1, 1, 1, 1, 1);
        for (int many = 1; many <= 5; many++) {
            m.scrawl(0, 3 * many, 5);
            for (int n = 0; n <= 4; n++) Check.done(m, many + " by " + n, m.answers(n), n >= many ? 1 : 0);
        }
    }

    @Says(of = 0, value = "no two alike, by which SUMS, if they were all that is said")
    static void noTwoAlike() {
        MurmurHall m = recorded(FIVE);
        m.scrawl(0, 4, 10);
        answers(m, 0, 0, 0, 0, 0);
        m.teach(0, 5, 0, 0);
        answers(m, 0, 0, 1, 1, 1);
        firstAnswer(m, 2, 4, 25);
        slipped(m, 2, 0, 4, 25);
    }

    @Says(of = 0, value = "would be just as RECORDED, on all SLATES, in all BEATS.")
    static void onAllSlatesInAllBeats() {
        MurmurHall m = recorded("place a;place b;way a b long 1;slate r at a;slate s at a;slate t at a;slate u at b;caller p at a;cry p 5;"
            + "call p 0 at 0;");
        answers(m, 0, 1, 1, 1, 1);
        Check.due("just its number", m.answerAt(1, 0), 0);
        int[][] places = {{0, 0}, {3, 1}, {0, 90}, {3, 90}, {3, 0}, {1, 45}};
        for (int[] place : places) {
            int was = m.scrawl(place[0], place[1], 4);
            answers(m, 0, 0, 0, 0, 0);
            m.scrawl(place[0], place[1], was);
        }
        answers(m, 0, 1, 1, 1, 1);
        m = recorded("place a;place b;slate r at b;slate s at b;slate t at b;slate u at a;caller p at a;cry p 1;call p 0 at 3;");
        answers(m, 0, 1, 1, 1, 1);
        m.scrawl(0, 3, 1);
        answers(m, 0, 0, 0, 0, 0);
        // as much in all, but one less where the second number is heard and one more elsewhere
        m = recorded("place a;slate s at a;caller p at a;cry p 5 6;call p 0 at 3;");
        for (int beat : new int[] {0, 2, 5, 20, 90}) {
            m.scrawl(0, 4, 5);
            m.scrawl(0, beat, 1);
            answers(m, 0, 0, 0, 0, 0);
            m.scrawl(0, 4, 6);
            m.scrawl(0, beat, 0);
        }
        answers(m, 0, 1, 1, 1, 1);
    }

    @Says(of = 0, value = "AT which BEAT (0 to 20)")
    static void answersInTheFirstAndTheLastBeat() {
        MurmurHall m = recorded(FIVE);
        for (int beat : new int[] {0, 20, 21, 90}) {
            m.scrawl(0, beat, 5);
            answers(m, 0, beat <= 20 ? 1 : 0, beat <= 20 ? 1 : 0, beat <= 20 ? 1 : 0, beat <= 20 ? 1 : 0);
            m.scrawl(0, beat, 0);
        }
        m = recorded("place a;place b;way a b long 3;slate s at b;caller p at a;cry p 5;");
        for (int beat : new int[] {0, 1, 2, 3, 23, 24}) {
            m.scrawl(0, beat, 5);
            Check.done(m, "in beat " + beat, m.answers(1), beat == 3 || beat == 23 ? 1 : 0);
            m.scrawl(0, beat, 0);
        }
    }

    @Says(of = 0, value = "(by CALLERS where they are now, SLATES as they hang now)")
    static void answersByWhereAllAreNow() {
        MurmurHall m = recorded("place a;place b;place c;way a b long 2 loses 1;slate s at a;caller p at a;cry p 5;call p 0 at 0;");
        answers(m, 0, 1, 1, 1, 1);
        m.walk(0, 1);
        answers(m, 0, 0, 0, 0, 0);
        slipped(m, 2, 1);
        m.hang(0, 1);
        answers(m, 0, 1, 1, 1, 1);
        m.walk(0, 2);
        answers(m, 0, 0, 0, 0, 0);
        m.walk(0, 0);
        m.scrawl(0, 0, 0);
        m.scrawl(0, 22, 4);
        firstAnswer(m, 1, 20);
        m.pave(0, 1, 1);
        answers(m, 0, 0, 0, 0, 0);
        m.hush(0);
        m.pave(0, 2, 1);
        firstAnswer(m, 1, 20);
    }

    @Says(of = 39, value = "How many ANSWERS (1; 6: nothing is RECORDED).")
    static void answersForNoSuchNumber() {
        MurmurHall m = Check.market();
        for (int n = 0; n <= 4; n++) Check.refused(m, "nothing is recorded", m.answers(n), 6);
        m.record();
        for (int n : new int[] {LEAST, -1, 5, MOST}) Check.refused(m, "n " + n, m.answers(n), 1);
        answers(m, 0, 0, 1, 1, 1);
    }

    @Says(of = 39, value = "How many ANSWERS")
    static void answersAsManyAsThereAre() {
        // 12 cries of 1 in one place: 4 of 12 make 4, 3 of 12 make 3
        MurmurHall m = recorded("place a;slate s at a;caller p at a;caller q at a;caller r at a;caller t at a;cry p 1;cry p 1;cry p 1;"
            + "cry q 1;cry q 1;cry q 1;cry r 1;cry r 1;cry r 1;cry t 1;cry t 1;cry t 1;");
        m.scrawl(0, 9, 3);
        answers(m, 0, 0, 0, 220, 220);
        m.scrawl(0, 9, 4);
        answers(m, 0, 0, 0, 0, 495);
        firstAnswer(m, 4, 9, 30, 51, 72);
        Check.done(m, "with the first", m.with(4, 0, 0, 9), 165);
        Check.done(m, "with the last", m.with(4, 3, 2, 9), 165);
        m.scrawl(0, 9, 5);
        answers(m, 0, 0, 0, 0, 0);
    }

    // ---- promise 40

    @Says(of = 40, value = "Of the FIRST ANSWER the number of the k-th CALL, from 0 on (1: k below 0, too; 6: nothing is RECORDED, no ANSWER, no such CALL)")
    static void answerAtOfNoSuch() {
        MurmurHall m = Check.market();
        Check.refused(m, "nothing is recorded", m.answerAt(4, 0), 6);
        m.record();
        for (int n : new int[] {LEAST, -1, 5, MOST}) Check.refused(m, "n " + n, m.answerAt(n, 0), 1);
        for (int k : new int[] {LEAST, -1}) Check.refused(m, "k " + k, m.answerAt(4, k), 1);
        for (int k : new int[] {2, 3, 4, 5, MOST}) Check.refused(m, "k " + k, m.answerAt(4, k), 6);
        Check.refused(m, "no answer for 0", m.answerAt(0, 0), 6);
        Check.done(m, "for more than are needed", m.answerAt(4, 1), 64);
        Check.refused(m, "no answer for 1", m.answerAt(1, 0), 6);
        firstAnswer(m, 2, 0, 64);
        m.hush(0);
        m.hush(0);
        m.record();
        Check.refused(m, "an answer without calls", m.answerAt(4, 0), 6);
    }

    @Says(of = 0, value = "Of several the FIRST: that whose CALLS, by numbers from the least on, come first, one by one (that which ends ahead of "
        + "others, if it is their beginning).")
    static void theFirstOfSeveral() {
        // 9 in beat 3 by 5 and 4, by 9, by 2 and 7, by 4 and 2 and 3
        MurmurHall m = recorded("place a;slate s at a;caller p at a;caller q at a;cry p 5;cry p 4;cry p 2;cry q 9;cry q 7;cry q 3;");
        m.scrawl(0, 3, 9);
        answers(m, 0, 1, 3, 4, 4);
        firstAnswer(m, 1, 66);
        firstAnswer(m, 2, 3, 24);
        firstAnswer(m, 3, 3, 24);
        Check.done(m, "fewest", m.fewest(), 1);
        // the calls of one set by their numbers, though the least number is heard last
        m.scrawl(0, 1, 7);
        firstAnswer(m, 2, 66, 85);
        firstAnswer(m, 3, 1, 43, 66);
        firstAnswer(m, 4, 1, 3, 24, 43);
        // 5 in beat 1 and 4 in beat 2: by 5 2 in beat 1 and 2 in beat 2, or by 5 in beat 1 and 4 in beat 2, whose number is the least
        m = recorded("place a;slate s at a;caller p at a;cry p 4;cry p 5 2;cry p 5;caller q at a;cry q 2;");
        m.scrawl(0, 1, 5);
        m.scrawl(0, 2, 4);
        Check.done(m, "two", m.answers(2), 2);
        firstAnswer(m, 2, 2, 43);
    }

    // ---- promise 41

    @Says(of = 41, value = "(BEAT 0 to 20) (1; 6: nothing is RECORDED)")
    static void withNoSuchCall() {
        MurmurHall m = Check.market();
        Check.refused(m, "nothing is recorded", m.with(4, 0, 0, 0), 6);
        m.record();
        for (int n : new int[] {LEAST, -1, 5, MOST}) Check.refused(m, "n " + n, m.with(n, 0, 0, 0), 1);
        for (int caller : new int[] {LEAST, -1, 2, MOST}) Check.refused(m, "caller " + caller, m.with(4, caller, 0, 0), 1);
        for (int cry : new int[] {LEAST, -1, 2, MOST}) Check.refused(m, "cry " + cry, m.with(4, 0, cry, 0), 1);
        for (int beat : new int[] {LEAST, -1, 21, MOST}) Check.refused(m, "beat " + beat, m.with(4, 0, 0, beat), 1);
        Check.done(m, "the first beat", m.with(4, 0, 0, 0), 1);
        Check.done(m, "the last beat", m.with(4, 0, 0, 20), 0);
        Check.done(m, "for none", m.with(0, 0, 0, 0), 0);
    }

    @Says(of = 41, value = "In how many ANSWERS for n there is a CALL")
    static void withTheLastBeat() {
        MurmurHall m = recorded(FIVE);
        m.scrawl(0, 20, 5);
        Check.done(m, "the last beat", m.with(1, 0, 0, 20), 1);
        Check.done(m, "the one ahead", m.with(1, 0, 0, 19), 0);
        m.teach(0, 5, 0, 0);
        Check.done(m, "one of two", m.with(1, 0, 1, 20), 1);
        Check.done(m, "of two", m.answers(1), 2);
    }

    // ---- promise 42

    @Says(of = 42, value = "The fewest CALLS of an ANSWER for 4 (6: nothing is RECORDED, no ANSWER).")
    static void fewestOfNoneAndOfFour() {
        MurmurHall m = Check.of(FIVE);
        Check.refused(m, "nothing is recorded", m.fewest(), 6);
        m.record();
        for (int many = 0; many <= 4; many++) {
            Check.done(m, "fewest", m.fewest(), many);
            m.scrawl(0, 2 * many, 5);
        }
        Check.refused(m, "five are too many", m.fewest(), 6);
        m.scrawl(0, 0, 4);
        Check.refused(m, "no answer", m.fewest(), 6);
    }

    // ---- promises 43, 44

    @Says(of = 43, value = "SLIPS: in how many places (1; 6: nothing is RECORDED).")
    static void slipsForNoSuchNumber() {
        MurmurHall m = Check.market();
        for (int n = 0; n <= 2; n++) Check.refused(m, "nothing is recorded", m.slips(n), 6);
        m.record();
        for (int n : new int[] {LEAST, -1, 3, 4, MOST}) Check.refused(m, "n " + n, m.slips(n), 1);
        int[] due = {8, 4, 0};
        for (int n = 0; n <= 2; n++) Check.done(m, "slips for " + n, m.slips(n), due[n]);
    }

    @Says(of = 43, value = "SLIPS: in how many places")
    static void slipsInAllPlaces() {
        MurmurHall m = Check.of("place a;slate s at a;slate t at a;slate u at a;slate v at a;caller p at a;cry p 1 1 1;");
        m.record();
        for (int slate = 0; slate < 4; slate++) for (int beat = 0; beat <= 90; beat++) m.scrawl(slate, beat, 2);
        slipped(m, 0, 364);
        slipped(m, 1, 364);
        // of two that overlap, two beats on each slate are mended
        slipped(m, 2, 364 - 8, 0, 1);
    }

    @Says(of = 44, value = "SLIPS: the number of the k-th CALL, from 0 on (1: k below 0, too; 6: nothing is RECORDED, no such CALL)")
    static void slipsAtOfNoSuch() {
        MurmurHall m = Check.market();
        Check.refused(m, "nothing is recorded", m.slipsAt(2, 0), 6);
        m.record();
        for (int n : new int[] {LEAST, -1, 3, MOST}) Check.refused(m, "n " + n, m.slipsAt(n, 0), 1);
        for (int k : new int[] {LEAST, -1}) Check.refused(m, "k " + k, m.slipsAt(2, k), 1);
        for (int k : new int[] {2, 3, 4, MOST}) Check.refused(m, "k " + k, m.slipsAt(2, k), 6);
        slipped(m, 0, 8);
        slipped(m, 1, 4, 64);
        slipped(m, 2, 0, 0, 64);
    }

    @Says(of = 44, value = "SLIPS: the number of the k-th CALL, from 0 on")
    static void slipsAtAskedFirst() {
        MurmurHall m = recorded(FIVE);
        Check.refused(m, "none", m.slipsAt(2, 0), 6);
        m.scrawl(0, 20, 5);
        Check.done(m, "the last beat", m.slipsAt(2, 0), 20);
        m.scrawl(0, 0, 5);
        Check.done(m, "the first beat", m.slipsAt(2, 0), 0);
        Check.done(m, "then the last", m.slipsAt(2, 1), 20);
        Check.done(m, "of one alone the first", m.slipsAt(1, 0), 0);
        Check.refused(m, "and no other", m.slipsAt(1, 1), 6);
        Check.refused(m, "of none", m.slipsAt(0, 0), 6);
    }

    @Says(of = 0, value = "SLIPS for n (0 to 2): of all sets of n or fewer LOUD CALLS, no two alike, that by which SUMS would be other than "
        + "RECORDED in the fewest places (a SLATE and a BEAT); of several the FIRST.")
    static void slipsTheFirstOfSeveral() {
        MurmurHall m = recorded("place a;slate s at a;caller p at a;cry p 1;cry p 1 2;");
        slipped(m, 2, 0);
        m.scrawl(0, 7, 9);
        slipped(m, 2, 1);
        m.scrawl(0, 7, 1);
        slipped(m, 1, 0, 7);
        slipped(m, 2, 0, 7);
        m.scrawl(0, 8, 2);
        slipped(m, 1, 0, 28);
        slipped(m, 2, 0, 28);
        m.scrawl(0, 20, 1);
        slipped(m, 1, 1, 28);
        slipped(m, 2, 0, 20, 28);
        m.scrawl(0, 90, 1);
        slipped(m, 2, 1, 20, 28);
    }

    // ---- promises 45, 46

    private static void moved(MurmurHall m, int k, int way, int size, int loss) {
        Check.done(m, "way of " + k, m.movedAt(k, 0), way);
        Check.done(m, "long of " + k, m.movedAt(k, 1), size);
        Check.done(m, "loss of " + k, m.movedAt(k, 2), loss);
    }

    @Says(of = 45, value = "MOVED: how many (6: nothing is RECORDED).")
    static void movedNoneAndAll() {
        MurmurHall m = Check.of("place a;");
        Check.refused(m, "nothing is recorded", m.moved(), 6);
        m.record();
        Check.done(m, "no ways", m.moved(), 0);
        m = recorded("place a;place b;" + "way a b long 1;".repeat(10));
        Check.done(m, "whatever it was, of ten", m.moved(), 890);
        moved(m, 0, 0, 1, 1);
        moved(m, 88, 0, 9, 9);
        moved(m, 89, 1, 1, 1);
        moved(m, 889, 9, 9, 9);
        Check.refused(m, "no more", m.movedAt(890, 0), 6);
        StringBuilder here = new StringBuilder("place a;place b;place c;way b c long 1;way a c long 9;slate s at a;slate t at a;slate u at a;slate v at a;"
            + "caller p at a;cry p 9 9 9;");
        for (int i = 0; i < 8; i++) here.append("call p 0 at ").append(13 + i).append(';');
        m = recorded(here.toString());
        Check.done(m, "eight calls on four slates that come by no way", m.moved(), 178);
    }

    @Says(of = 46, value = "MOVED: of the k-th, from 0 on, what 0: the WAY, 1: LONG, 2: LOSS (1: k below 0, too; 6: nothing is RECORDED, no such)")
    static void movedAtOfNoSuch() {
        MurmurHall m = Check.market();
        Check.refused(m, "nothing is recorded", m.movedAt(0, 0), 6);
        m.record();
        Check.refused(m, "no such", m.movedAt(0, 0), 6);
        m.pave(1, 1, 9);
        Check.done(m, "one", m.moved(), 1);
        for (int k : new int[] {LEAST, -1}) Check.refused(m, "k " + k, m.movedAt(k, 0), 1);
        for (int what : new int[] {LEAST, -1, 3, MOST}) Check.refused(m, "what " + what, m.movedAt(0, what), 1);
        for (int k : new int[] {1, 2, MOST}) Check.refused(m, "k " + k, m.movedAt(k, 0), 6);
        moved(m, 0, 1, 1, 2);
    }

    @Says(of = 0, value = "MOVED: a WAY, another LONG or LOSS (or both), by which the SUMS of the CALLS that there are would be just as RECORDED")
    static void movedInLongOrLossOrBoth() {
        String text = "place a;place b;way a b long 9 loses 9;slate s at b;caller p at a;cry p 99;call p 0 at 20;";
        MurmurHall m = recorded(text);
        Check.done(m, "no other one", m.moved(), 0);
        int[][] changed = {{1, 9}, {9, 0}, {1, 0}, {8, 9}, {9, 8}, {5, 5}};
        for (int[] to : changed) {
            m.pave(0, to[0], to[1]);
            Check.done(m, "back alone", m.moved(), 1);
            moved(m, 0, 0, 9, 9);
            Check.done(m, "the hall stays", m.way(0, 2), to[0]);
            Check.done(m, "the hall stays", m.way(0, 3), to[1]);
        }
        m.pave(0, 1, 0);
        m.record();
        m.pave(0, 9, 9);
        moved(m, 0, 0, 1, 0);
        m.scrawl(0, 90, 1);
        Check.done(m, "by none", m.moved(), 0);
        m.scrawl(0, 90, 0);
        m.hush(0);
        Check.done(m, "of the calls that there are", m.moved(), 0);
    }

    @Says(of = 0, value = "by which the SUMS of the CALLS that there are would be just as RECORDED")
    static void movedInAFullHall() {
        StringBuilder text = new StringBuilder("place a;place b;place c;place d;place e;place f;place g;way g f long 9 loses 9;way f e long 9 loses 9;"
            + "way d e long 9 loses 9;way c d long 9 loses 9;way c b long 9 loses 9;way a b long 9 loses 9;slate s at g;slate t at a;slate u at b;"
            + "slate v at f;caller p at a;caller q at g;cry p 99 98 97;cry q 90 91 92;");
        for (int i = 0; i < 4; i++) text.append("call p 0 at ").append(17 + i).append(";call q 0 at ").append(17 + i).append(';');
        MurmurHall m = recorded(text.toString());
        Check.done(m, "no other one", m.moved(), 0);
        for (int way = 0; way < 6; way++) {
            m.pave(way, 1, 0);
            Check.done(m, "back alone", m.moved(), 1);
            moved(m, 0, way, 9, 9);
            m.pave(way, 9, 9);
        }
        m.pave(5, 8, 8);
        m.scrawl(0, 76, m.recorded(0, 76) - 1);
        m.scrawl(0, 90, 1);
        Check.done(m, "as much in all is not just as recorded", m.moved(), 0);
    }

    @Says(of = 0, value = "by WAY, then LONG, then LOSS.")
    static void movedInOrder() {
        // what is lost is all there is, so that only a small loss is heard; nothing is recorded
        MurmurHall m = recorded("place a;place b;place c;way b c long 4 loses 4;way a b long 5 loses 7;slate s at b;caller p at a;cry p 7;call p 0 at 0;");
        Check.done(m, "all of the first, of the second those that lose 7 and more", m.moved(), 89 + 9 * 3 - 1);
        moved(m, 0, 0, 1, 0);
        moved(m, 9, 0, 1, 9);
        moved(m, 10, 0, 2, 0);
        moved(m, 33, 0, 4, 3);
        moved(m, 34, 0, 4, 5);
        moved(m, 88, 0, 9, 9);
        moved(m, 89, 1, 1, 7);
        moved(m, 91, 1, 1, 9);
        moved(m, 92, 1, 2, 7);
        moved(m, 101, 1, 5, 8);
        moved(m, 114, 1, 9, 9);
    }

    // ---- promise 47

    @Says(of = 47, value = "(1: one CRY and itself, too; 6: they are not ALIKE)")
    static void alikeOfNoSuch() {
        MurmurHall m = Check.market();
        for (int caller : new int[] {LEAST, -1, 2, MOST}) {
            Check.refused(m, "caller " + caller, m.alike(caller, 0, 0, 0), 1);
            Check.refused(m, "other " + caller, m.alike(0, 0, caller, 0), 1);
            Check.refused(m, "both " + caller, m.alike(caller, 0, caller, 0), 1);
        }
        for (int cry : new int[] {LEAST, -1, 2, MOST}) {
            Check.refused(m, "cry " + cry, m.alike(0, cry, 1, 0), 1);
            Check.refused(m, "its " + cry, m.alike(1, 0, 0, cry), 1);
        }
        Check.refused(m, "a cry that another one has", m.alike(1, 1, 0, 0), 1);
        Check.refused(m, "itself", m.alike(0, 0, 0, 0), 1);
        Check.refused(m, "itself, the last", m.alike(1, 0, 1, 0), 1);
        Check.refused(m, "of one caller, not alike", m.alike(0, 0, 0, 1), 6);
        Check.refused(m, "of two callers, not alike", m.alike(0, 0, 1, 0), 6);
    }

    @Says(of = 0, value = "if there are BEATS by which the second is said later (0 to 20) or earlier (20 at most)")
    static void alikeByTwentyAtMost() {
        String far = "place a;place b;place c;place d;way a b long 9;way b c long 9;way c d long 2;slate s at a;caller p at a;cry p 5;"
            + "caller q at d;cry q 5;";
        MurmurHall m = Check.of(far);
        Check.done(m, "20 earlier", m.alike(0, 0, 1, 0), -20);
        Check.done(m, "20 later", m.alike(1, 0, 0, 0), 20);
        Check.done(m, "so they are not parted", m.parts(1), 0);
        m.pave(2, 3, 0);
        Check.refused(m, "21 earlier", m.alike(0, 0, 1, 0), 6);
        Check.refused(m, "21 later", m.alike(1, 0, 0, 0), 6);
        Check.done(m, "so they are parted", m.parts(1), 1);
        m.pave(2, 1, 0);
        Check.done(m, "19 earlier", m.alike(0, 0, 1, 0), -19);
        m.walk(1, 0);
        Check.done(m, "at once", m.alike(0, 0, 1, 0), 0);
        Check.done(m, "at once", m.alike(1, 0, 0, 0), 0);
    }

    @Says(of = 47, value = {"By how many BEATS later (below 0: earlier) the second CRY is said by which both are ALIKE by the PLACES where SLATES hang",
        "STATUS tells NONE from -1"})
    static void alikeByOneBeatEarlier() {
        MurmurHall m = Check.of("place a;place b;way a b long 1;slate s at a;caller p at a;cry p 5 6;caller q at b;cry q 5 6;cry q 5 7;");
        Check.done(m, "one earlier", m.alike(0, 0, 1, 0), NONE);
        Check.done(m, "one later", m.alike(1, 0, 0, 0), 1);
        Check.refused(m, "not alike", m.alike(0, 0, 1, 1), 6);
    }

    @Says(of = 47, value = "of several the least by size, then the later")
    static void alikeByWhateverBeats() {
        MurmurHall m = Check.of("place a;place b;place c;way a b long 9 loses 9;slate s at b;caller p at a;cry p 9;cry p 8 7;caller q at c;cry q 50;"
            + "caller r at b;cry r 1;");
        Check.done(m, "both silent", m.alike(0, 0, 0, 1), 0);
        Check.done(m, "both silent", m.alike(0, 0, 1, 0), 0);
        Check.refused(m, "one silent", m.alike(0, 0, 2, 0), 6);
        m = Check.of("place a;caller p at a;cry p 1;cry p 2 3;");
        Check.done(m, "without slates", m.alike(0, 0, 0, 1), 0);
    }

    @Says(of = 0, value = "so that by SLATES AT just these PLACES SUMS of the one alone are always those of the other one alone (AT whatever "
        + "BEATS, those ahead of 0, too)")
    static void alikeOnEachSlate() {
        MurmurHall m = Check.of("place a;place b;place c;way a b long 2;way b c long 2;slate s at a;slate t at a;slate u at c;slate v at c;"
            + "caller p at a;cry p 5;cry p 5;caller q at b;cry q 5;caller r at c;cry r 5;");
        Check.refused(m, "on one earlier, on the other later by as much", m.alike(0, 0, 2, 0), 6);
        Check.refused(m, "on one earlier, on the other later", m.alike(0, 0, 1, 0), 6);
        Check.done(m, "on all at once", m.alike(0, 0, 0, 1), 0);
        for (int slate = 2; slate < 4; slate++) m.hang(slate, 0);
        Check.done(m, "on those at one place", m.alike(0, 0, 2, 0), -4);
        for (int slate = 0; slate < 4; slate++) m.hang(slate, 2);
        Check.done(m, "on those at the other", m.alike(0, 0, 2, 0), 4);
        Check.done(m, "on those at the other", m.alike(0, 0, 1, 0), 2);
        m.hang(3, 1);
        Check.done(m, "from the middle on", m.alike(0, 0, 1, 0), 2);
        Check.refused(m, "the last slate parts them", m.alike(0, 0, 2, 0), 6);
    }

    @Says(of = 0, value = "ALIKE are two CRIES (of one CALLER or two) by a set of PLACES")
    static void alikeInWhatIsLeftOfThem() {
        MurmurHall m = Check.of("place a;place b;way a b long 1 loses 4;slate s at b;caller p at a;cry p 4 9 3;cry p 9;cry p 1 2 9;");
        Check.done(m, "one later", m.alike(0, 0, 0, 1), 1);
        Check.done(m, "one earlier", m.alike(0, 1, 0, 0), -1);
        Check.done(m, "two earlier", m.alike(0, 1, 0, 2), -2);
        Check.done(m, "one earlier", m.alike(0, 0, 0, 2), -1);
        m.hang(0, 0);
        for (int cry = 0; cry < 3; cry++) for (int its = 0; its < 3; its++) if (cry != its) Check.refused(m, "all of them", m.alike(0, cry, 0, its), 6);
        m = Check.of("place a;place b;way a b long 1 loses 4;slate s at b;caller p at a;cry p 9 4 9;cry p 9 9;cry p 9 1 9;");
        Check.refused(m, "silence within is no end", m.alike(0, 0, 0, 1), 6);
        Check.done(m, "silence within", m.alike(0, 0, 0, 2), 0);
        m = Check.of("place a;place b;way a b long 1 loses 1;slate s at b;caller p at a;cry p 2 1 1;cry p 2;cry p 2 2;");
        Check.done(m, "silence behind is no part", m.alike(0, 0, 0, 1), 0);
        Check.refused(m, "a 1 behind is", m.alike(0, 1, 0, 2), 6);
        m = Check.of("place a;place b;way a b long 1 loses 4;slate s at b;caller p at a;cry p 4 4 5;cry p 5;cry p 4 5;");
        Check.done(m, "just 1 is left, of the third", m.alike(0, 0, 0, 1), 2);
        Check.done(m, "and of the second", m.alike(0, 0, 0, 2), 1);
        Check.done(m, "and of the first", m.alike(0, 1, 0, 2), -1);
    }

    // ---- promises 48, 49, 50

    @Says(of = 48, value = "1 if no two CRIES of all CALLERS are ALIKE by a set of PLACES, else 0 (1).")
    static void partsOfNoSuchPlaces() {
        MurmurHall m = new MurmurHall();
        Check.done(m, "nothing by nothing", m.parts(0), 1);
        for (int set : new int[] {LEAST, -1, 1, 2, MOST}) Check.refused(m, "set " + set, m.parts(set), 1);
        m = Check.market();
        for (int set : new int[] {LEAST, -1, 16, 17, 127, MOST}) Check.refused(m, "set " + set, m.parts(set), 1);
        Check.done(m, "none", m.parts(0), 0);
        Check.done(m, "all", m.parts(15), 1);
        Check.done(m, "the last alone", m.parts(8), 0);
        m = Check.of("place a;place b;place c;place d;place e;place f;place g;caller p at g;cry p 1;cry p 2;");
        Check.done(m, "all seven", m.parts(127), 1);
        Check.done(m, "the seventh alone", m.parts(64), 1);
        Check.done(m, "all but the seventh", m.parts(63), 0);
        Check.refused(m, "an eighth", m.parts(128), 1);
    }

    @Says(of = 0, value = "a set with what there is none of")
    static void partsWithAPlaceThatThereIsNot() {
        MurmurHall m = Check.of("place a;place b;");
        for (int set = 0; set < 4; set++) Check.done(m, "set " + set, m.parts(set), 1);
        for (int set = 4; set < 8; set++) Check.refused(m, "set " + set, m.parts(set), 1);
    }

    @Says(of = 48, value = "no two CRIES of all CALLERS")
    static void partsOfOneCryAndOfTwo() {
        MurmurHall m = Check.of("place a;caller p at a;caller q at a;caller r at a;cry r 5;");
        Check.done(m, "one cry, by nothing", m.parts(0), 1);
        Check.done(m, "one cry", m.parts(1), 1);
        m.teach(2, 5, 0, 0);
        Check.done(m, "two of one caller", m.parts(1), 0);
        m = Check.of("place a;caller p at a;caller q at a;cry p 5;cry p 6;cry p 7;cry q 1;cry q 2;cry q 7;");
        Check.done(m, "the last of two callers", m.parts(1), 0);
    }

    @Says(of = 49, value = "HANGING: how many (6: by none).")
    static void hangingByNoneAndByNothing() {
        MurmurHall m = new MurmurHall();
        Check.done(m, "nothing needs nothing", m.hanging(), 0);
        m = Check.of("place a;caller p at a;cry p 5;");
        Check.done(m, "one cry needs nothing", m.hanging(), 0);
        m.teach(0, 6, 0, 0);
        Check.done(m, "two need one", m.hanging(), 1);
        m.teach(0, 6, 0, 0);
        Check.refused(m, "two that are the same", m.hanging(), 6);
        m = Check.of("place a;place b;caller p at a;caller q at a;cry q 5;");
        Check.done(m, "one cry, of the second caller, needs nothing", m.hanging(), 0);
        m.teach(0, 5, 0, 0);
        Check.refused(m, "the same at one place", m.hanging(), 6);
        m.walk(0, 1);
        Check.done(m, "apart from one another", m.hanging(), 1);
        Check.done(m, "by either", m.hangingSet(), 1);
    }

    @Says(of = 50, value = "HANGING: the set (6).")
    static void hangingSetOfNoneAndOfNothing() {
        MurmurHall m = new MurmurHall();
        Check.done(m, "nothing needs nothing", m.hangingSet(), 0);
        m = Check.of("place a;caller p at a;cry p 5;");
        Check.done(m, "one cry needs nothing", m.hangingSet(), 0);
        m.teach(0, 6, 0, 0);
        Check.done(m, "two need one", m.hangingSet(), 1);
        m.teach(0, 6, 0, 0);
        Check.refused(m, "two that are the same", m.hangingSet(), 6);
    }

    private static void hanging(MurmurHall m, int many, int set) {
        Check.done(m, "hanging", m.hanging(), many);
        Check.done(m, "its set", m.hangingSet(), set);
        Check.done(m, "it parts", m.parts(set), 1);
    }

    @Says(of = 0, value = "HANGING: the fewest PLACES by which no two CRIES of all CALLERS are ALIKE; of several sets the least as a number "
        + "(1 for PLACE 0 ..).")
    static void hangingTheFewestThenTheLeast() {
        // at g alone something is left of all; at a (and c) nothing of q, at b (and d) nothing of p
        MurmurHall m = Check.of("place a;place b;place c;place d;place e;place f;place g;way a c long 1;way c g long 1 loses 5;"
            + "way g d long 1 loses 5;way d b long 1;caller p at c;cry p 6;cry p 7;caller q at d;cry q 8;cry q 9;");
        hanging(m, 1, 64);
        Check.done(m, "a and b would do, too", m.parts(3), 1);
        Check.done(m, "but not a", m.parts(1), 0);
        Check.done(m, "nor b", m.parts(2), 0);
        m = Check.of("place a;place b;place c;place d;place e;place f;place g;caller p at g;cry p 1;cry p 2;");
        hanging(m, 1, 64);
        // five callers apart: each must have a slate of its own, one more than there can be
        m = Check.of("place a;place b;place c;place d;place e;place f;place g;caller p at c;cry p 1;cry p 2;caller q at d;cry q 3;cry q 4;"
            + "caller r at e;cry r 5;cry r 6;caller s at f;cry s 7;cry s 8;caller t at g;cry t 9;cry t 10;");
        hanging(m, 5, 4 + 8 + 16 + 32 + 64);
        m = Check.of("place a;place b;place c;place d;way a b long 1;way b c long 1;way c d long 1;caller p at a;cry p 3;caller q at d;cry q 3;");
        hanging(m, 2, 3);
        Check.done(m, "by one of them, whichever", m.parts(1) + m.parts(2) + m.parts(4) + m.parts(8), 0);
    }
}
