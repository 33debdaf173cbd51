/** Boundary cases of FAR, LOST and what is HEARD (promises 28 to 38). */
public final class HeardBoundariesTest {
    private static final int LEAST = Integer.MIN_VALUE;
    private static final int MOST = Integer.MAX_VALUE;
    /** Seven places in a row, six ways of nine beats and a loss of nine. */
    private static final String LONGEST = "place a;place b;place c;place d;place e;place f;place g;way a b long 9 loses 9;"
        + "way b c long 9 loses 9;way c d long 9 loses 9;way d e long 9 loses 9;way e f long 9 loses 9;way f g long 9 loses 9;";
    /** One place, four slates; eight calls that all say 99 in beat 2. */
    private static final String LOUDEST = "place a;slate s at a;slate t at a;slate u at a;slate v at a;caller p at a;caller q at a;"
        + "caller r at a;cry p 99 99 99;cry q 99 99 99;cry r 99 99 99;call p 0 at 0;call p 0 at 1;call p 0 at 2;call q 0 at 0;"
        + "call q 0 at 1;call q 0 at 2;call r 0 at 0;call r 0 at 1;";

    public static void main(String[] args) { Boundaries.run(HeardBoundariesTest.class); }

    // ---- promises 28, 29

    @Says(of = 28, value = "FAR (1; 6: there is no way).")
    static void farOfNoPlaceAndNoWay() {
        MurmurHall m = Check.market();
        for (int bad : new int[] {LEAST, -1, 4, 6, 7, MOST}) {
            Check.refused(m, "from " + bad, m.far(bad, 0), 1);
            Check.refused(m, "to " + bad, m.far(0, bad), 1);
            Check.refused(m, "from and to " + bad, m.far(bad, bad), 1);
        }
        for (int place = 0; place < 3; place++) {
            Check.refused(m, "no way there", m.far(place, 3), 6);
            Check.refused(m, "no way back", m.far(3, place), 6);
        }
        Check.done(m, "to the last of them", m.far(0, 2), 3);
    }

    @Says(of = 29, value = "LOST (1; 6: there is no way).")
    static void lostOfNoPlaceAndNoWay() {
        MurmurHall m = Check.market();
        for (int bad : new int[] {LEAST, -1, 4, 6, 7, MOST}) {
            Check.refused(m, "from " + bad, m.lost(bad, 0), 1);
            Check.refused(m, "to " + bad, m.lost(0, bad), 1);
            Check.refused(m, "from and to " + bad, m.lost(bad, bad), 1);
        }
        for (int place = 0; place < 3; place++) {
            Check.refused(m, "no way there", m.lost(place, 3), 6);
            Check.refused(m, "no way back", m.lost(3, place), 6);
        }
        Check.done(m, "to the next", m.lost(1, 2), 2);
    }

    @Says(of = 0, value = "(0 and 0: itself)")
    static void farAndLostOfItself() {
        MurmurHall m = Check.market();
        for (int place = 0; place < 4; place++) {
            Check.done(m, "far", m.far(place, place), 0);
            Check.done(m, "lost", m.lost(place, place), 0);
        }
    }

    @Says(of = 0, value = "FAR is a PLACE from another one by the fewest BEATS of all WAYS on one way together")
    static void farAcrossTheLongest() {
        MurmurHall m = Check.of(LONGEST);
        for (int from = 0; from < 7; from++) {
            for (int to = 0; to < 7; to++) {
                Check.done(m, "far", m.far(from, to), 9 * Math.abs(from - to));
                Check.done(m, "lost", m.lost(from, to), 9 * Math.abs(from - to));
            }
        }
        for (int middle = 0; middle < 7; middle++) {
            StringBuilder star = new StringBuilder("place a;place b;place c;place d;place e;place f;place g;");
            for (int end = 0; end < 7; end++) {
                if (end != middle) star.append("way ").append((char) ('a' + end)).append(' ').append((char) ('a' + middle)).append(" long 9;");
            }
            m = Check.of(star.toString());
            Check.done(m, "by the middle one", m.far(middle == 0 ? 1 : 0, middle == 6 ? 5 : 6), 18);
            Check.done(m, "back", m.far(middle == 6 ? 5 : 6, middle == 0 ? 1 : 0), 18);
        }
        m = Check.of(LONGEST + "way g a long 9;");
        Check.done(m, "by one way round", m.far(0, 6), 9);
        Check.done(m, "by it to the next", m.far(0, 5), 18);
        Check.done(m, "not by it", m.far(0, 3), 27);
        Check.done(m, "nor there", m.lost(0, 3), 27);
        Check.done(m, "the other half not by it", m.far(3, 6), 27);
    }

    @Says(of = 0, value = "LOST is, of all such ways, the least LOSS of all WAYS on one together")
    static void lostOfThoseAsFar() {
        MurmurHall m = Check.of("place a;place b;place c;way a b long 2 loses 9;way a c long 1 loses 3;way c b long 1 loses 4;");
        Check.done(m, "as far by two", m.far(0, 1), 2);
        Check.done(m, "less is lost by two", m.lost(0, 1), 7);
        m.pave(0, 2, 6);
        Check.done(m, "less is lost by one", m.lost(0, 1), 6);
        m.pave(0, 1, 9);
        Check.done(m, "one beat less", m.far(0, 1), 1);
        Check.done(m, "though more is lost", m.lost(0, 1), 9);
        m.pave(0, 3, 0);
        Check.done(m, "one beat more", m.far(0, 1), 2);
        Check.done(m, "though less would be lost", m.lost(0, 1), 7);
        m = Check.of("place a;place b;way a b long 3 loses 5;way b a long 3 loses 4;way a b long 4;");
        Check.done(m, "beside one another", m.far(1, 0), 3);
        Check.done(m, "the lesser loss", m.lost(1, 0), 4);
    }

    // ---- HEARD, promises 30, 31

    @Says(of = 0, value = "is HEARD on a SLATE, if there is a way from its CALLER's PLACE to that of the SLATE")
    static void heardOnlyWhereAWayGoes() {
        MurmurHall m = Check.of("place a;place b;slate s at a;slate t at b;caller p at a;cry p 7;call p 0 at 0;");
        Check.done(m, "at its own place", m.heard(0, 0), 7);
        for (int beat = 0; beat <= 90; beat++) Check.due("nowhere else", m.heard(1, beat), 0);
        Check.done(m, "nothing at all", m.all(1), 0);
    }

    @Says(of = 0, value = "its i-th number (0 on), less LOST (0 at least), in BEAT b and i and FAR together")
    static void heardLessWhatIsLost() {
        MurmurHall m = Check.of("place a;place b;way a b long 9 loses 5;slate s at b;caller p at a;cry p 4 5 6;call p 0 at 20;");
        Check.done(m, "less than nothing is nothing", m.heard(0, 29), 0);
        Check.done(m, "just nothing", m.heard(0, 30), 0);
        Check.done(m, "just something", m.heard(0, 31), 1);
        Check.done(m, "behind it", m.heard(0, 32), 0);
        Check.done(m, "all together", m.all(0), 1);
        Check.done(m, "first", m.first(0), 31);
        Check.done(m, "the others are not of the set", m.from(0, 30), 0);
    }

    @Says(of = 30, value = "The SUM on a SLATE in a BEAT (0 to 90) (1).")
    static void heardAtTheLimits() {
        MurmurHall m = Check.market();
        for (int slate : new int[] {LEAST, -1, 2, 3, 4, MOST}) Check.refused(m, "slate " + slate, m.heard(slate, 0), 1);
        for (int beat : new int[] {LEAST, -1, 91, MOST}) Check.refused(m, "beat " + beat, m.heard(0, beat), 1);
        Check.done(m, "the first beat", m.heard(0, 0), 9);
        Check.done(m, "the last beat", m.heard(0, 90), 0);
        Check.done(m, "the last slate", m.heard(1, 3), 10);
    }

    @Says(of = 0, value = "The SUM on a SLATE in a BEAT (0 to 90): all that is HEARD then of all CALLS.")
    static void heardAsLateAndAsLoudAsCanBe() {
        MurmurHall m = Check.of(LONGEST + "slate s at g;caller p at a;cry p 99 98 97;call p 0 at 20;");
        Check.done(m, "the first number", m.heard(0, 74), 45);
        Check.done(m, "the last number", m.heard(0, 76), 43);
        Check.done(m, "behind it", m.heard(0, 77), 0);
        m = Check.of("place a;slate s at a;caller p at a;cry p 5 6 7;cry p 9;call p 0 at 4;");
        Check.done(m, "ahead of the first number", m.heard(0, 3), 0);
        Check.done(m, "behind the third number", m.heard(0, 7), 0);
        m = Check.of(LOUDEST);
        for (int slate = 0; slate < 4; slate++) Check.done(m, "eight at once", m.heard(slate, 2), 792);
        Check.done(m, "three at once", m.heard(3, 0), 3 * 99);
    }

    @Says(of = 31, value = "The set of CALLS (1 for CALL 0 ..) of which a number above 0 is HEARD on a SLATE in a BEAT (1).")
    static void fromNoneAndFromEight() {
        MurmurHall m = Check.of(LOUDEST);
        Check.done(m, "all eight", m.from(3, 2), 255);
        Check.done(m, "the last alone among others", m.from(0, 0), 1 + 8 + 64);
        Check.done(m, "none", m.from(0, 5), 0);
        m.teach(0, 1, 0, 0);
        m.hush(7);
        Check.done(m, "an eighth that says just 1", m.say(0, 1, 20), 8);
        Check.done(m, "it alone", m.from(2, 20), 128);
        Check.done(m, "in the last beat", m.from(0, 90), 0);
        for (int slate : new int[] {LEAST, -1, 4, MOST}) Check.refused(m, "slate " + slate, m.from(slate, 0), 1);
        for (int beat : new int[] {LEAST, -1, 91, MOST}) Check.refused(m, "beat " + beat, m.from(0, beat), 1);
    }

    // ---- promises 32 to 35

    @Says(of = 32, value = "The first BEAT in which the SUM on a SLATE is above 0 (1; 6: in none).")
    static void firstOfNone() {
        MurmurHall m = Check.market();
        for (int slate : new int[] {LEAST, -1, 2, 4, MOST}) Check.refused(m, "slate " + slate, m.first(slate), 1);
        Check.done(m, "in beat 0", m.first(0), 0);
        m.hush(0);
        m.hush(0);
        Check.refused(m, "in none", m.first(0), 6);
        m = Check.of(LONGEST + "slate s at g;caller p at a;cry p 54 54 55;call p 0 at 20;");
        Check.done(m, "as late as can be", m.first(0), 76);
        m.pave(0, 9, 0);
        Check.done(m, "where less is lost", m.first(0), 74);
    }

    @Says(of = 33, value = "The last one (1; 6).")
    static void lastOfNone() {
        MurmurHall m = Check.market();
        for (int slate : new int[] {LEAST, -1, 2, 4, MOST}) Check.refused(m, "slate " + slate, m.last(slate), 1);
        Check.done(m, "behind the third number", m.last(0), 5);
        m.hush(0);
        m.hush(0);
        Check.refused(m, "in none", m.last(0), 6);
        m = Check.of("place a;slate s at a;caller p at a;cry p 1;call p 0 at 0;");
        Check.done(m, "in beat 0", m.last(0), 0);
        m = Check.of(LONGEST + "slate s at g;caller p at a;cry p 99 55 54;call p 0 at 20;");
        Check.done(m, "what is lost is not the last", m.last(0), 75);
    }

    @Says(of = 34, value = "The BEAT with the greatest SUM on a SLATE, of several the first (1; 6: all are 0).")
    static void loudestOfSeveral() {
        MurmurHall m = Check.of("place a;slate s at a;caller p at a;cry p 5 7 7;call p 0 at 18;");
        for (int slate : new int[] {LEAST, -1, 1, 4, MOST}) Check.refused(m, "slate " + slate, m.loudest(slate), 1);
        Check.done(m, "of two the first", m.loudest(0), 19);
        m.say(0, 0, 0);
        Check.done(m, "of four the first", m.loudest(0), 1);
        m.hush(0);
        m.hush(0);
        Check.refused(m, "all are 0", m.loudest(0), 6);
        m.teach(0, 1, 0, 0);
        m.say(0, 1, 0);
        Check.done(m, "just 1, in beat 0", m.loudest(0), 0);
    }

    @Says(of = 35, value = "All SUMS on a SLATE together (1).")
    static void allOfNoneAndOfEight() {
        MurmurHall m = Check.of(LOUDEST);
        for (int slate : new int[] {LEAST, -1, 4, MOST}) Check.refused(m, "slate " + slate, m.all(slate), 1);
        Check.done(m, "as much as can be", m.all(3), 8 * 297);
        for (int i = 0; i < 8; i++) m.hush(0);
        Check.done(m, "nothing", m.all(0), 0);
    }

    // ---- promises 36, 37

    @Says(of = 36, value = "What is RECORDED of a SLATE and a BEAT (0 to 90) (1; 6: nothing is RECORDED).")
    static void recordedAtTheLimits() {
        MurmurHall m = Check.market();
        Check.refused(m, "nothing is recorded", m.recorded(0, 0), 6);
        m.record();
        for (int slate : new int[] {LEAST, -1, 2, 3, 4, MOST}) Check.refused(m, "slate " + slate, m.recorded(slate, 0), 1);
        for (int beat : new int[] {LEAST, -1, 91, MOST}) Check.refused(m, "beat " + beat, m.recorded(0, beat), 1);
        Check.done(m, "the first beat", m.recorded(0, 0), 9);
        Check.done(m, "the last beat", m.recorded(1, 90), 0);
        m.hang(0, 3);
        Check.done(m, "as it was, wherever it hangs now", m.recorded(0, 0), 9);
    }

    @Says(of = 37, value = "In how many places (a SLATE and a BEAT) SUMS are other than RECORDED (6: nothing is RECORDED).")
    static void differsInNoneAndInAll() {
        MurmurHall m = new MurmurHall();
        Check.refused(m, "nothing is recorded", m.differs(), 6);
        Check.hall(m, "place a;slate s at a;slate t at a;slate u at a;slate v at a;");
        m.record();
        Check.done(m, "in none", m.differs(), 0);
        m.scrawl(0, 0, 1);
        Check.done(m, "in the first", m.differs(), 1);
        m.scrawl(3, 90, 1);
        Check.done(m, "in the last, too", m.differs(), 2);
        for (int beat = 0; beat <= 90; beat++) for (int slate = 0; slate < 4; slate++) m.scrawl(slate, beat, 1);
        Check.done(m, "in all", m.differs(), 364);
    }

    // ---- promise 38

    @Says(of = 38, value = "n of them (0 to 60, no further than BEAT 90): all these together (1; 2; 3)")
    static void copyHeardOfNoSuch() {
        MurmurHall m = Check.market();
        m.tray(0, 2, 60);
        for (int slate : new int[] {LEAST, -1, 2, 4, MOST}) Check.refused(m, "slate " + slate, m.copyHeard(slate, 0, 0, 1), 1);
        for (int tray : new int[] {LEAST, -1, 4, MOST}) Check.refused(m, "tray " + tray, m.copyHeard(0, tray, 0, 1), 1);
        for (int beat : new int[] {LEAST, -1, 91, MOST}) Check.refused(m, "beat " + beat, m.copyHeard(0, 0, beat, 0), 1);
        for (int n : new int[] {LEAST, -1, 61, MOST}) Check.refused(m, "n " + n, m.copyHeard(0, 0, 0, n), 1);
        Check.refused(m, "past the greatest int", m.copyHeard(0, 0, 90, MOST), 1);
        Check.refused(m, "missing", m.copyHeard(0, 1, 0, 1), 2);
        Check.refused(m, "missing, for none", m.copyHeard(0, 1, 0, 0), 2);
    }

    @Says(of = 38, value = "SUMS on a SLATE from a BEAT on (0 to 90) come to a TRAY, n of them (0 to 60, no further than BEAT 90)")
    static void copyHeardUpToTheLastBeat() {
        MurmurHall m = Check.of(LONGEST + "slate s at g;caller p at a;cry p 99 98 97;call p 0 at 20;");
        m.tray(0, 2, 60);
        Check.done(m, "sixty, up to the last beat", m.copyHeard(0, 0, 31, 60), 45 + 44 + 43);
        Check.done(m, "the last number", m.read(0, 45), 43);
        Check.refused(m, "further than that", m.copyHeard(0, 0, 32, 60), 1);
        Check.done(m, "the last beat alone", m.copyHeard(0, 0, 90, 1), 0);
        Check.refused(m, "the last beat and one more", m.copyHeard(0, 0, 90, 2), 1);
        Check.done(m, "none from the last beat", m.copyHeard(0, 0, 90, 0), 0);
        Check.done(m, "none from the first", m.copyHeard(0, 0, 0, 0), 0);
    }

    @Says(of = 38, value = "(1; 2; 3)")
    static void copyHeardToATrayThatIsTooShort() {
        MurmurHall m = Check.market();
        m.tray(0, 2, 2);
        m.write(0, 0, 77);
        m.write(0, 1, 78);
        Check.refused(m, "one too many", m.copyHeard(0, 0, 0, 3), 3);
        Check.done(m, "nothing came", m.read(0, 0), 77);
        Check.done(m, "just one", m.copyHeard(0, 0, 0, 1), 9);
        Check.done(m, "it came", m.read(0, 0), 9);
        Check.done(m, "the other one stays", m.read(0, 1), 78);
        Check.done(m, "just two", m.copyHeard(0, 0, 0, 2), 14);
        Check.done(m, "both came", m.read(0, 1), 5);
        m.tray(0, 2, 0);
        Check.done(m, "none to a tray of none", m.copyHeard(0, 0, 0, 0), 0);
        Check.refused(m, "one to a tray of none", m.copyHeard(0, 0, 0, 1), 3);
    }

    @Says(of = 38, value = "come to a TRAY, n of them")
    static void copyHeardWrapsAround() {
        MurmurHall m = Check.of(LOUDEST);
        long[] cut = {(byte) 792, 792, 792, 792};
        for (int sort = 0; sort < 4; sort++) {
            m.tray(sort, sort, 1);
            Check.done(m, "the sum as it is", m.copyHeard(0, sort, 2, 1), 792);
            Check.done(m, "cut to the sort " + sort, m.read(sort, 0), cut[sort]);
        }
    }
}
