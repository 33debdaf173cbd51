/** Each promise of the document, by hand: ordinary inputs, the edges that it names, wrong inputs. */
public final class PromisesTest {
    private static final int NONE = MurmurHall.NONE;

    public static void main(String[] args) {
        newObject();
        statusAndFraction();
        trays();
        pour();
        feed();
        hall();
        hallFaults();
        cutTexts();
        hallLimits();
        words();
        mornings();
        morningsFaults();
        fault();
        told();
        sayAndHush();
        walkAndHang();
        paveTeachRule();
        recordAndScrawl();
        farAndLost();
        heard();
        recordedDiffersCopy();
        answers();
        severalAnswers();
        slips();
        moved();
        alike();
        partsAndHanging();
        chanceAndQuiet();
        live();
        liveMissed();
        liveLimit();
        liveDraws();
        mean();
        marks();
        Check.end();
    }

    /** Promise 1. */
    private static void newObject() {
        MurmurHall m = new MurmurHall();
        Check.due("status at first", m.status(), 0);
        Check.fraction(m, "at first", 0, 1);
        Check.due("fault(0) at first", m.fault(0), NONE);
        Check.due("fault(1) at first", m.fault(1), NONE);
        int[] told = {0, 0, 0, 0, 0, 4, 0, 0};
        for (int what = 0; what < told.length; what++) Check.done(m, "told " + what, m.told(what), told[what]);
        Check.refused(m, "live without mornings", m.live(0), 6);
        Check.refused(m, "mean without mornings", m.mean(0, 1), 6);
        Check.refused(m, "undo without marks", m.undo(), 6);
        for (int tray = 0; tray < 4; tray++) Check.refused(m, "read of a missing tray", m.read(tray, 0), 2);
        Check.refused(m, "hall of an empty tape", m.hall(1), 1);
        Check.due("NONE", MurmurHall.NONE, -1);
    }

    /** Promises 2, 3, 4: only calls that have a STATUS change it, only FRACTIONS that are told change the fraction. */
    private static void statusAndFraction() {
        MurmurHall m = Check.market();
        Check.refused(m, "slate(9)", m.slate(9), 1);
        m.top();
        m.bottom();
        m.feed(0, 0, 0, 0, 0);
        m.fault(0);
        Check.due("status stays", m.status(), 1);
        Check.due("status told twice", m.status(), 1);
        Check.done(m, "chance", m.chance(1, 3, 10));
        Check.fraction(m, "chance", 1, 4);
        Check.refused(m, "chance of no slate", m.chance(2, 3, 10), 1);
        Check.fraction(m, "stays", 1, 4);
        Check.done(m, "told", m.told(0), 4);
        Check.fraction(m, "stays behind others", 1, 4);
    }

    /** Promises 5, 6, 7. */
    private static void trays() {
        MurmurHall m = new MurmurHall();
        Check.refused(m, "tray -1", m.tray(-1, 0, 1), 1);
        Check.refused(m, "tray 4", m.tray(4, 0, 1), 1);
        Check.refused(m, "sort -1", m.tray(0, -1, 1), 1);
        Check.refused(m, "sort 4", m.tray(0, 4, 1), 1);
        Check.refused(m, "many -1", m.tray(0, 0, -1), 1);
        Check.refused(m, "many 61", m.tray(0, 0, 61), 1);
        Check.refused(m, "still missing", m.write(0, 0, 5), 2);
        long v = 0x123456789abcdef0L;
        long[] cut = {(byte) v, (short) v, (int) v, v};
        for (int sort = 0; sort < 4; sort++) {
            Check.done(m, "tray", m.tray(sort, sort, 60));
            Check.done(m, "write", m.write(sort, 59, v));
            Check.done(m, "read", m.read(sort, 59), cut[sort]);
            Check.done(m, "read", m.read(sort, 58), 0);
            Check.done(m, "write -1", m.write(sort, 0, -1));
            Check.done(m, "read -1", m.read(sort, 0), -1);
            Check.refused(m, "write behind the last", m.write(sort, 60, 1), 3);
            Check.refused(m, "write ahead of the first", m.write(sort, -1, 1), 3);
            Check.refused(m, "read behind the last", m.read(sort, 60), 3);
            Check.refused(m, "read ahead of the first", m.read(sort, -1), 3);
        }
        Check.done(m, "write 255", m.write(0, 1, 255));
        Check.done(m, "read 255 of 8 bits", m.read(0, 1), -1);
        Check.done(m, "tray anew", m.tray(0, 1, 2));
        Check.done(m, "read anew", m.read(0, 0), 0);
        Check.refused(m, "read anew", m.read(0, 2), 3);
        Check.done(m, "an empty tray", m.tray(0, 0, 0));
        Check.refused(m, "read of an empty tray", m.read(0, 0), 3);
        Check.refused(m, "write to no tray", m.write(4, 0, 0), 1);
        Check.refused(m, "write to no tray", m.write(-1, 0, 0), 1);
        Check.refused(m, "read of no tray", m.read(4, 0), 1);
        Check.refused(m, "read of no tray", m.read(-1, 0), 1);
    }

    /** Promise 8. */
    private static void pour() {
        MurmurHall m = new MurmurHall();
        m.tray(0, 2, 5);
        m.tray(1, 2, 3);
        m.tray(2, 1, 5);
        for (int i = 0; i < 5; i++) m.write(0, i, 10 + i);
        Check.done(m, "pour", m.pour(0, 1, 1, 0, 3));
        for (int i = 0; i < 3; i++) Check.done(m, "poured", m.read(1, i), 11 + i);
        Check.done(m, "pour up its own", m.pour(0, 0, 0, 1, 4));
        long[] up = {10, 10, 11, 12, 13};
        for (int i = 0; i < 5; i++) Check.done(m, "poured up", m.read(0, i), up[i]);
        Check.done(m, "pour down its own", m.pour(0, 2, 0, 0, 3));
        long[] down = {11, 12, 13, 12, 13};
        for (int i = 0; i < 5; i++) Check.done(m, "poured down", m.read(0, i), down[i]);
        Check.done(m, "pour none", m.pour(0, 5, 1, 3, 0));
        Check.refused(m, "from no tray", m.pour(4, 0, 1, 0, 1), 1);
        Check.refused(m, "to no tray", m.pour(0, 0, -1, 0, 1), 1);
        Check.refused(m, "place below 0", m.pour(0, -1, 1, 0, 1), 1);
        Check.refused(m, "at below 0", m.pour(0, 0, 1, -1, 1), 1);
        Check.refused(m, "many below 0", m.pour(0, 0, 1, 0, -1), 1);
        Check.refused(m, "below 0 ahead of missing", m.pour(0, 0, 3, 0, -1), 1);
        Check.refused(m, "from missing", m.pour(3, 0, 0, 0, 1), 2);
        Check.refused(m, "to missing", m.pour(0, 0, 3, 0, 1), 2);
        Check.refused(m, "unlike ahead of too few", m.pour(0, 9, 2, 9, 9), 8);
        Check.refused(m, "too few to pour from", m.pour(1, 1, 0, 0, 3), 3);
        Check.refused(m, "too few to pour to", m.pour(0, 0, 1, 1, 3), 3);
        Check.refused(m, "far too many", m.pour(0, Integer.MAX_VALUE, 0, 0, Integer.MAX_VALUE), 3);
        Check.done(m, "nothing was changed", m.read(1, 0), 11);
    }

    /** Promise 9. */
    private static void feed() {
        MurmurHall m = new MurmurHall();
        // "pl" "ac" .. the highest byte first: place a;place b;
        for (int i = 1; i <= 45; i++) Check.due("feed", m.feed(0x706c6163, 0x6520613b, 0x20202020, 0x20202020, 0x20202020), 20 * i);
        Check.due("a 46th feed", m.feed(0, 0, 0, 0, 0), NONE);
        Check.due("feed has no status", m.status(), 0);
        Check.done(m, "hall of the first eight bytes", m.hall(8), 0);
        Check.done(m, "told places", m.told(0), 1);
        Check.due("the tape is empty then", m.feed(0, 0, 0, 0, 0), 20);
    }

    /** Promise 10, and what 14 to 18 tell of a HALL. */
    private static void hall() {
        MurmurHall m = Check.market();
        int[][] ways = {{0, 1, 2, 1}, {1, 2, 1, 2}, {0, 2, 3, 0}};
        for (int way = 0; way < 3; way++) {
            for (int what = 0; what < 4; what++) Check.done(m, "way", m.way(way, what), ways[way][what]);
            Check.refused(m, "way, what 4", m.way(way, 4), 1);
            Check.refused(m, "way, what -1", m.way(way, -1), 1);
        }
        Check.refused(m, "way 3", m.way(3, 0), 1);
        Check.refused(m, "way -1", m.way(-1, 0), 1);
        Check.done(m, "slate 0", m.slate(0), 0);
        Check.done(m, "slate 1", m.slate(1), 2);
        Check.refused(m, "slate 2", m.slate(2), 1);
        Check.refused(m, "slate -1", m.slate(-1), 1);
        Check.done(m, "caller 1", m.caller(1, 0), 1);
        Check.done(m, "caller 1", m.caller(1, 1), 1);
        Check.done(m, "caller 0", m.caller(0, 1), 2);
        Check.refused(m, "caller 2", m.caller(2, 0), 1);
        Check.refused(m, "caller -1", m.caller(-1, 0), 1);
        Check.refused(m, "caller, what 2", m.caller(0, 2), 1);
        Check.refused(m, "caller, what -1", m.caller(0, -1), 1);
        int[] third = {6, 3, 2};
        for (int i = 0; i < 3; i++) Check.done(m, "cry", m.cry(1, 0, i), third[i]);
        Check.refused(m, "a fourth number", m.cry(1, 0, 3), 6);
        Check.refused(m, "a second number", m.cry(0, 1, 1), 6);
        Check.refused(m, "a number far behind", m.cry(0, 1, 1000), 6);
        Check.refused(m, "a number below 0", m.cry(0, 1, -1), 1);
        Check.refused(m, "no such cry", m.cry(1, 1, 0), 1);
        Check.refused(m, "no such cry", m.cry(1, -1, 0), 1);
        Check.refused(m, "no such caller", m.cry(2, 0, 0), 1);
        int[][] calls = {{0, 0, 0}, {1, 0, 1}};
        for (int call = 0; call < 2; call++) {
            for (int what = 0; what < 3; what++) Check.done(m, "call", m.call(call, what), calls[call][what]);
            Check.refused(m, "call, what 3", m.call(call, 3), 1);
            Check.refused(m, "call, what -1", m.call(call, -1), 1);
        }
        Check.refused(m, "call 2", m.call(2, 0), 1);
        Check.refused(m, "call -1", m.call(-1, 0), 1);

        Check.feed(m, "place z;");
        Check.refused(m, "hall of fewer than none", m.hall(-1), 1);
        Check.refused(m, "hall of more than the tape has", m.hall(21), 1);
        Check.done(m, "the old one stays", m.told(0), 4);
        Check.refused(m, "hall of 0 bytes behind the text", m.hall(20), 9);
        Check.done(m, "the old one stays", m.told(0), 4);
        Check.due("the tape is empty with 9, too", m.feed(0, 0, 0, 0, 0), 20);
        Check.done(m, "record", m.record(), 41);
        Check.done(m, "mornings", Check.mornings(Check.market(), "any;"), 1);
        Check.feed(m, "");
        Check.done(m, "a hall of nothing", m.hall(0), 0);
        Check.done(m, "nothing is recorded", m.told(6), 0);
        Check.done(m, "no odds told", m.told(5), 4);
        Check.refused(m, "no mornings", m.live(0), 6);
        Check.done(m, "all told without blanks", Check.hall(m, "place a;caller p at a;cry p 0007 8;call p 0at 20;\n \n"), 1);
        Check.done(m, "its beat", m.call(0, 2), 20);
        Check.done(m, "its first number", m.cry(0, 0, 0), 7);
    }

    /** Promise 10: each FAULT of the document, least kind first. */
    private static void hallFaults() {
        Check.hallFault("A", 1, 0);
        Check.hallFault("place a;\t", 1, 8);
        Check.hallFault("place a;\r", 1, 8);
        Check.hallFault("place \u00e9", 1, 6);
        Check.hallFault("odds 12345;", 1, 5);
        Check.hallFault("place 12345;", 1, 6);
        Check.hallFault("place a 1234567890;", 1, 8);
        Check.hallFault("place a:", 1, 7);
        Check.hallFault("place", 2, 5);
        Check.hallFault("place  \n", 2, 8);
        Check.hallFault("place a", 2, 7);
        Check.hallFault("place a b", 2, 8);
        Check.hallFault("place 1", 2, 6);
        Check.hallFault("place ;", 2, 6);
        Check.hallFault("place abcdefghi;", 2, 6);
        Check.hallFault("; place a;", 2, 0);
        Check.hallFault("7", 2, 0);
        Check.hallFault("shop a;", 2, 0);
        Check.hallFault("hush;", 2, 0);
        Check.hallFault("odds a;", 2, 5);
        Check.hallFault("odds 1=", 2, 6);
        String two = "place a;place b;";
        Check.hallFault(two + "way a b 3;", 2, 24);
        Check.hallFault(two + "way a b long;", 2, 28);
        Check.hallFault(two + "way a b long 3 loses;", 2, 36);
        Check.hallFault(two + "way a b long 3 loses 1 2;", 2, 39);
        Check.hallFault(two + "way a b long 3 4;", 2, 31);
        Check.hallFault(two + "slate s a;", 2, 24);
        Check.hallFault(two + "slate s at 1;", 2, 27);
        Check.hallFault(two + "caller s at at;", 2, 28);
        Check.hallFault("place a;place a;", 3, 14);
        Check.hallFault(two + "slate a at a;", 3, 22);
        Check.hallFault(two + "caller b at a;", 3, 23);
        Check.hallFault(two + "slate s at a;caller s at a;", 3, 36);
        Check.hallFault(two + "caller s at a;place s;", 3, 36);
        Check.hallFault("way a b long 1;", 3, 4);
        Check.hallFault("place a;way a b long 1;place b;", 3, 14);
        Check.hallFault(two + "slate s at c;", 3, 27);
        Check.hallFault(two + "slate s at s;", 3, 27);
        Check.hallFault(two + "slate s at a;way a s long 1;", 3, 35);
        Check.hallFault("cry p 1;", 3, 4);
        Check.hallFault(two + "cry a 1;", 3, 20);
        Check.hallFault(two + "slate s at a;call s 0 at 0;", 3, 34);
        Check.hallFault("odds 17;", 4, 5);
        Check.hallFault(two + "way a b long 0;", 4, 29);
        Check.hallFault(two + "way a b long 10;", 4, 29);
        Check.hallFault(two + "way a b long 9 loses 10;", 4, 37);
        String one = "place a;caller p at a;";
        Check.hallFault(one + "cry p 0;", 4, 28);
        Check.hallFault(one + "cry p 100;", 4, 28);
        Check.hallFault(one + "cry p 1 0;", 4, 30);
        Check.hallFault(one + "cry p 1 2 100;", 4, 32);
        Check.hallFault(one + "cry p 1 2 3 4;", 2, 34);
        Check.hallFault(one + "cry p;", 2, 27);
        Check.hallFault(one + "call p 0 at 0;", 4, 29);
        Check.hallFault(one + "cry p 1;call p 1 at 0;", 4, 37);
        Check.hallFault(one + "cry p 1;call p 0 at 21;", 4, 42);
        Check.hallFault(one + "cry p 1;call p 0 0;", 2, 39);
        Check.hallFault("odds 1;odds 2;", 5, 7);
        Check.hallFault("odds 1;odds;", 5, 7);
        Check.hallFault("place a;way a a long 99;", 5, 14);
        Check.hallFault(one + "cry p 1;call p 0 at 5;call p 0 at 05 x", 5, 56);
    }

    /** Promises 10, 11: what stands on the tape behind the text is no part of it. */
    private static void cutTexts() {
        MurmurHall m = Check.market();
        Check.feed(m, "odds 123456;");
        Check.refused(m, "a number cut", m.hall(6), 9);
        Check.due("its fault", m.fault(0), 2);
        Check.due("its place", m.fault(1), 6);
        Check.feed(m, "odds 1234567;");
        Check.refused(m, "a number cut", m.hall(9), 9);
        Check.due("its fault", m.fault(0), 4);
        Check.feed(m, "anything;");
        Check.refused(m, "a word cut", m.mornings(3), 9);
        Check.due("its fault", m.fault(0), 2);
        Check.due("its place", m.fault(1), 3);
        Check.feed(m, "place abcdefghijk");
        Check.refused(m, "a name cut", m.hall(14), 9);
        Check.due("its place", m.fault(1), 14);
        Check.done(m, "the market stays", m.told(0), 4);
    }

    /** Promise 10: as many as may be, and FAULT 6 for one more. */
    private static void hallLimits() {
        StringBuilder most = new StringBuilder("odds 16;");
        for (char c = 'a'; c <= 'g'; c++) most.append("place ").append(c).append(';');
        for (int i = 0; i < 10; i++) most.append("way a b long 9 loses 9;");
        for (char c = 'h'; c <= 'k'; c++) most.append("slate ").append(c).append(" at g;");
        for (char c = 'l'; c <= 'p'; c++) most.append("caller ").append(c).append(" at a;");
        for (int i = 0; i < 3; i++) most.append("cry p 99 99 99;");
        for (int i = 0; i < 8; i++) most.append("call p 2 at ").append(i).append(';');
        String text = most.toString();
        MurmurHall m = new MurmurHall();
        Check.done(m, "the greatest hall", Check.hall(m, text), 5);
        int[] told = {7, 10, 4, 5, 8, 16, 0, 3};
        for (int what = 0; what < 8; what++) Check.done(m, "told", m.told(what), told[what]);
        int end = text.length();
        Check.hallFault(text + "place z;", 6, end);
        Check.hallFault(text + "place place", 6, end);
        Check.hallFault(text + "way a a", 6, end);
        Check.hallFault(text + "slate z at a;", 6, end);
        Check.hallFault(text + "caller z at a;", 6, end);
        Check.hallFault(text + "call p 0 at 0;", 6, end);
        Check.hallFault(text + "cry p 1;", 6, end + 4);
        Check.hallFault(text + "cry z 1;", 3, end + 4);
        Check.hallFault(text + "odds", 5, end);
    }

    /** Promise 10: none of the words is a NAME; all others of up to 8 letters are. */
    private static void words() {
        String words = "odds place way long loses slate at caller cry call say hush walk record any when heard calls loop end stop";
        for (String word : words.split(" ")) {
            Check.hallFault("place " + word + ";", 2, 6);
            MurmurHall m = new MurmurHall();
            Check.done(m, "a name that begins so", Check.hall(m, "place " + word + "x;place x" + word + ";"), 0);
        }
        MurmurHall m = new MurmurHall();
        Check.done(m, "eight letters", Check.hall(m, "place abcdefgh;place abcdefgi;place bcdefgh;place z;"), 0);
        Check.done(m, "four places", m.told(0), 4);
        Check.hallFault("place abcdefgh;place abcdefgh;", 3, 21);
        // the last eight letters of a longer word are no word and no name
        Check.hallFault("place bcdefgh;place z;way z aaaaaaaabcdefgh long 1;", 2, 28);
        Check.hallFault("xxxxxxxxplace a;", 2, 0);
    }

    /** Promise 11. */
    private static void mornings() {
        MurmurHall m = Check.market();
        String text = "say p 2 20;hush;walk q d;record;any;when heard s 90<999;loop 99;stop;end;end;"
            + "when at p a;end;when calls=8;end;when heard t 0>0;end;";
        Check.done(m, "mornings", Check.mornings(m, text), 11);
        Check.due("fault(0)", m.fault(0), 0);
        Check.due("fault(1)", m.fault(1), NONE);
        Check.feed(m, "any;");
        Check.refused(m, "below 0", m.mornings(-1), 1);
        Check.refused(m, "more than the tape has", m.mornings(21), 1);
        Check.due("the tape stays", m.feed(0, 0, 0, 0, 0), 40);
        Check.done(m, "four bytes", m.mornings(4), 1);
        Check.due("the tape is empty then", m.feed(0, 0, 0, 0, 0), 20);
        Check.feed(m, " ".repeat(400));
        Check.refused(m, "301 bytes", m.mornings(301), 1);
        Check.refused(m, "0 bytes are no blanks", m.mornings(300), 9);
        Check.feed(m, " ".repeat(300));
        Check.done(m, "300 blanks", m.mornings(300), 0);
        Check.done(m, "mornings of nothing are lived", m.live(0), 0);
        Check.done(m, "30 steps", Check.mornings(m, "any;".repeat(30)), 30);
        Check.done(m, "30 steps, and ends", Check.mornings(m, "when calls=0;end;loop 1;end;".repeat(5) + "hush;".repeat(20)), 30);
        Check.done(m, "three within one another", Check.mornings(m, "loop 1;loop 1;loop 1;any;end;end;end;"), 4);
        Check.refused(m, "with 9", Check.mornings(m, "any"), 9);
        Check.done(m, "the old ones stay", m.live(1), 4);
        Check.done(m, "names are those of the hall", Check.hall(m, "place x;"), 0);
        Check.refused(m, "an old name", Check.mornings(m, "walk p a;"), 9);
        Check.due("its fault", m.fault(0), 3);
    }

    /** Promise 11: each FAULT. */
    private static void morningsFaults() {
        Check.morningsFault("any;#", 1, 4);
        Check.morningsFault("loop 10000;", 1, 5);
        Check.morningsFault("any", 2, 3);
        Check.morningsFault("place a;", 2, 0);
        Check.morningsFault("end;", 2, 0);
        Check.morningsFault("loop 2;any;", 2, 11);
        Check.morningsFault("loop 2;any; \n", 2, 13);
        Check.morningsFault("loop 2;end;end;", 2, 11);
        Check.morningsFault("loop 2;end", 2, 10);
        Check.morningsFault("when p a;", 2, 5);
        Check.morningsFault("when at p;", 2, 9);
        Check.morningsFault("when calls 3;", 2, 11);
        Check.morningsFault("when calls;3;", 2, 10);
        Check.morningsFault("when calls<;", 2, 11);
        Check.morningsFault("when calls<=3;", 2, 11);
        Check.morningsFault("when heard s 3 4;", 2, 15);
        Check.morningsFault("hush p;", 2, 5);
        Check.morningsFault("say p 0;", 2, 7);
        Check.morningsFault("say abcdefghi 0 0;", 2, 4);
        Check.morningsFault("say a 0 0;", 3, 4);
        Check.morningsFault("say s 0 0;", 3, 4);
        Check.morningsFault("walk a p;", 3, 5);
        Check.morningsFault("walk p q;", 3, 7);
        Check.morningsFault("when at s a;", 3, 8);
        Check.morningsFault("when at p s;", 3, 10);
        Check.morningsFault("when heard p 0=0;", 3, 11);
        Check.morningsFault("say p 3 0;", 4, 6);
        Check.morningsFault("say p 2 21;", 4, 8);
        Check.morningsFault("loop 0;", 4, 5);
        Check.morningsFault("loop 100;", 4, 5);
        Check.morningsFault("when calls<9;", 4, 11);
        Check.morningsFault("when heard s 91<9;", 4, 13);
        Check.morningsFault("when heard s 90<1000;", 4, 16);
        Check.morningsFault("any;".repeat(30) + "any;", 6, 120);
        Check.morningsFault("any;".repeat(30) + "place", 2, 120);
        Check.morningsFault("loop 1;end;".repeat(15) + "any;".repeat(15) + "loop 2;", 6, 225);
        Check.morningsFault("loop 1;".repeat(3) + "loop 1;", 7, 21);
        Check.morningsFault("loop 1;when calls=0;loop 1;when", 7, 27);
        Check.morningsFault("any;".repeat(27) + "loop 1;".repeat(3) + "loop 1;", 6, 129);
    }

    /** Promise 12. */
    private static void fault() {
        MurmurHall m = new MurmurHall();
        Check.hall(m, "place");
        Check.due("fault(0)", m.fault(0), 2);
        Check.due("fault(1)", m.fault(1), 5);
        Check.due("fault(2)", m.fault(2), NONE);
        Check.due("fault(-1)", m.fault(-1), NONE);
        Check.refused(m, "with status 1", m.hall(1), 1);
        Check.due("fault(0) stays", m.fault(0), 2);
        Check.mornings(m, "any;x");
        Check.due("fault(0) of the latest", m.fault(0), 2);
        Check.due("fault(1) of the latest", m.fault(1), 4);
        Check.due("fault has no status", m.status(), 9);
        Check.mornings(m, "any;");
        Check.due("fault(0) without one", m.fault(0), 0);
        Check.due("fault(1) without one", m.fault(1), NONE);
    }

    /** Promise 13. */
    private static void told() {
        MurmurHall m = Check.market();
        int[] told = {4, 3, 2, 2, 2, 8, 0, 3};
        for (int what = 0; what < 8; what++) Check.done(m, "told " + what, m.told(what), told[what]);
        m.record();
        m.teach(1, 1, 0, 0);
        Check.done(m, "told 6 once something is recorded", m.told(6), 1);
        Check.done(m, "told 7 behind teach", m.told(7), 4);
        Check.refused(m, "told 8", m.told(8), 1);
        Check.refused(m, "told -1", m.told(-1), 1);
    }

    /** Promises 19, 20. */
    private static void sayAndHush() {
        MurmurHall m = Check.market();
        Check.refused(m, "no caller", m.say(2, 0, 0), 1);
        Check.refused(m, "no caller", m.say(-1, 0, 0), 1);
        Check.refused(m, "no cry", m.say(0, 2, 0), 1);
        Check.refused(m, "no cry", m.say(0, -1, 0), 1);
        Check.refused(m, "beat 21", m.say(0, 0, 21), 1);
        Check.refused(m, "beat -1", m.say(0, 0, -1), 1);
        Check.refused(m, "told", m.say(0, 0, 0), 7);
        for (int i = 3; i <= 8; i++) Check.done(m, "say", m.say(0, 1, 23 - i), i);
        Check.refused(m, "a ninth", m.say(0, 1, 0), 4);
        Check.refused(m, "a ninth that is told", m.say(0, 0, 0), 4);
        Check.refused(m, "a ninth that can't be", m.say(0, 0, 21), 1);
        Check.refused(m, "hush -1", m.hush(-1), 1);
        Check.refused(m, "hush 8", m.hush(8), 1);
        Check.done(m, "hush 1", m.hush(1), 7);
        Check.done(m, "those ahead stay", m.call(0, 1), 0);
        Check.done(m, "those behind have a number less", m.call(1, 2), 20);
        Check.done(m, "the last one", m.call(6, 2), 15);
        Check.done(m, "hush the last", m.hush(6), 6);
        Check.refused(m, "hush it again", m.hush(6), 1);
        Check.done(m, "say it again", m.say(1, 0, 1), 7);
        Check.done(m, "it is the last", m.call(6, 0), 1);
    }

    /** Promises 21, 22. */
    private static void walkAndHang() {
        MurmurHall m = Check.market();
        Check.refused(m, "walk to where he is", m.walk(1, 1), 7);
        Check.refused(m, "walk of none", m.walk(2, 1), 1);
        Check.refused(m, "walk of none", m.walk(-1, 1), 1);
        Check.refused(m, "walk to none", m.walk(1, 4), 1);
        Check.refused(m, "walk to none", m.walk(1, -1), 1);
        Check.done(m, "walk", m.walk(1, 2), 1);
        Check.done(m, "he is there", m.caller(1, 0), 2);
        Check.done(m, "what he said is said there", m.heard(1, 1), 6);
        Check.done(m, "walk where no way goes", m.walk(1, 3), 2);
        Check.done(m, "nothing is heard of him", m.heard(1, 1), 0);
        Check.refused(m, "hang where it hangs", m.hang(1, 2), 7);
        Check.refused(m, "hang none", m.hang(2, 1), 1);
        Check.refused(m, "hang none", m.hang(-1, 1), 1);
        Check.refused(m, "hang to none", m.hang(1, 4), 1);
        Check.refused(m, "hang to none", m.hang(1, -1), 1);
        Check.done(m, "hang", m.hang(1, 3), 2);
        Check.done(m, "it hangs there", m.slate(1), 3);
        Check.done(m, "it hears him", m.heard(1, 2), 3);
    }

    /** Promises 23, 24, 25. */
    private static void paveTeachRule() {
        MurmurHall m = Check.market();
        Check.refused(m, "no way", m.pave(3, 1, 0), 1);
        Check.refused(m, "no way", m.pave(-1, 1, 0), 1);
        Check.refused(m, "long 0", m.pave(0, 0, 0), 1);
        Check.refused(m, "long 10", m.pave(0, 10, 0), 1);
        Check.refused(m, "loss -1", m.pave(0, 1, -1), 1);
        Check.refused(m, "loss 10", m.pave(0, 1, 10), 1);
        Check.done(m, "pave", m.pave(2, 9, 9));
        Check.done(m, "its long", m.way(2, 2), 9);
        Check.done(m, "its loss", m.way(2, 3), 9);
        Check.done(m, "lost the other way round", m.lost(0, 2), 3);
        Check.done(m, "pave", m.pave(2, 1, 0));
        Check.done(m, "far", m.far(0, 2), 1);
        Check.done(m, "far by it", m.far(0, 1), 2);
        Check.done(m, "pave as it is", m.pave(2, 1, 0));

        Check.refused(m, "teach none", m.teach(2, 1, 0, 0), 1);
        Check.refused(m, "teach none", m.teach(-1, 1, 0, 0), 1);
        Check.refused(m, "first 0", m.teach(0, 0, 0, 0), 1);
        Check.refused(m, "first 100", m.teach(0, 100, 0, 0), 1);
        Check.refused(m, "second -1", m.teach(0, 1, -1, 0), 1);
        Check.refused(m, "second 100", m.teach(0, 1, 100, 0), 1);
        Check.refused(m, "third -1", m.teach(0, 1, 1, -1), 1);
        Check.refused(m, "third 100", m.teach(0, 1, 1, 100), 1);
        Check.refused(m, "a third without a second", m.teach(0, 1, 0, 1), 1);
        Check.done(m, "teach", m.teach(0, 99, 98, 0), 2);
        Check.done(m, "its second", m.cry(0, 2, 1), 98);
        Check.refused(m, "it has no third", m.cry(0, 2, 2), 6);
        Check.refused(m, "a fourth", m.teach(0, 1, 0, 0), 4);
        Check.refused(m, "a fourth that can't be", m.teach(0, 0, 0, 0), 1);
        Check.done(m, "teach", m.teach(1, 1, 2, 3), 1);
        Check.done(m, "its third", m.cry(1, 1, 2), 3);
        Check.done(m, "say it", m.say(1, 1, 0), 3);

        Check.refused(m, "odds -1", m.rule(-1), 1);
        Check.refused(m, "odds 17", m.rule(17), 1);
        Check.done(m, "they stay", m.told(5), 8);
        Check.done(m, "odds 16", m.rule(16));
        Check.done(m, "they are", m.told(5), 16);
        Check.done(m, "odds 0", m.rule(0));
        Check.done(m, "they are", m.told(5), 0);
    }

    /** Promises 26, 27. */
    private static void recordAndScrawl() {
        MurmurHall m = Check.market();
        Check.refused(m, "scrawl on nothing", m.scrawl(0, 0, 0), 6);
        Check.refused(m, "scrawl on no slate", m.scrawl(2, 0, 0), 1);
        Check.done(m, "record", m.record(), 41);
        Check.refused(m, "no slate", m.scrawl(-1, 0, 0), 1);
        Check.refused(m, "beat -1", m.scrawl(0, -1, 0), 1);
        Check.refused(m, "beat 91", m.scrawl(0, 91, 0), 1);
        Check.refused(m, "sum -1", m.scrawl(0, 0, -1), 1);
        Check.refused(m, "sum 1000", m.scrawl(0, 0, 1000), 1);
        Check.done(m, "scrawl", m.scrawl(0, 0, 999), 9);
        Check.done(m, "what stands there", m.scrawl(0, 0, 9), 999);
        Check.done(m, "scrawl in the last beat", m.scrawl(1, 90, 3), 0);
        Check.done(m, "it is recorded", m.recorded(1, 90), 3);
        Check.done(m, "it is not heard", m.heard(1, 90), 0);
        m.hush(0);
        Check.done(m, "what is recorded stays", m.recorded(0, 0), 9);
        Check.done(m, "record in its place", m.record(), 41 - 9 - 5 - 9 - 5);
        Check.done(m, "it is in its place", m.recorded(1, 90), 0);
        Check.done(m, "it is in its place", m.recorded(0, 0), 0);
    }

    /** Promises 28, 29: the least loss of the shortest ways, not of all. */
    private static void farAndLost() {
        MurmurHall m = Check.market();
        int[][] far = {{0, 2, 3}, {2, 0, 1}, {3, 1, 0}};
        int[][] lost = {{0, 1, 0}, {1, 0, 2}, {0, 2, 0}};
        for (int a = 0; a < 3; a++) {
            for (int b = 0; b < 3; b++) {
                Check.done(m, "far", m.far(a, b), far[a][b]);
                Check.done(m, "lost", m.lost(a, b), lost[a][b]);
            }
            Check.refused(m, "no way", m.far(a, 3), 6);
            Check.refused(m, "no way", m.lost(3, a), 6);
        }
        Check.done(m, "itself", m.far(3, 3), 0);
        Check.done(m, "itself", m.lost(3, 3), 0);
        int[][] wrong = {{-1, 0}, {0, -1}, {4, 0}, {0, 4}};
        for (int[] w : wrong) {
            Check.refused(m, "far of none", m.far(w[0], w[1]), 1);
            Check.refused(m, "lost of none", m.lost(w[0], w[1]), 1);
        }
        Check.hall(m, "place a;place b;place c;place d;place e;place f;place g;way a b long 9 loses 9;way b c long 9 loses 9;"
            + "way c d long 9 loses 9;way d e long 9 loses 9;way e f long 9 loses 9;way f g long 9 loses 9;way b a long 9 loses 8;"
            + "slate s at g;caller p at a;cry p 1 1 99;call p 0 at 20;");
        Check.done(m, "as far as can be", m.far(0, 6), 54);
        Check.done(m, "lost on as many", m.lost(6, 0), 53);
        Check.done(m, "heard as late as can be", m.heard(0, 76), 46);
        Check.done(m, "the first beat", m.first(0), 76);
    }

    /** Promises 30 to 35. */
    private static void heard() {
        MurmurHall m = Check.market();
        int[] s = {9, 5, 0, 5, 2, 1, 0};
        int[] t = {0, 0, 4, 10, 5, 0, 0};
        int[] from = {1, 1, 0, 2, 2, 2, 0};
        int[] fromT = {0, 0, 2, 3, 1, 0, 0};
        for (int beat = 0; beat < 7; beat++) {
            Check.done(m, "heard on s", m.heard(0, beat), s[beat]);
            Check.done(m, "heard on t", m.heard(1, beat), t[beat]);
            Check.done(m, "from on s", m.from(0, beat), from[beat]);
            Check.done(m, "from on t", m.from(1, beat), fromT[beat]);
        }
        Check.done(m, "in the last beat", m.heard(0, 90), 0);
        Check.done(m, "from in the last beat", m.from(0, 90), 0);
        Check.done(m, "first", m.first(0), 0);
        Check.done(m, "last", m.last(0), 5);
        Check.done(m, "loudest", m.loudest(0), 0);
        Check.done(m, "all", m.all(0), 22);
        Check.done(m, "first", m.first(1), 2);
        Check.done(m, "last", m.last(1), 4);
        Check.done(m, "loudest", m.loudest(1), 3);
        Check.done(m, "all", m.all(1), 19);
        m.say(0, 0, 7);
        Check.done(m, "the first of the loudest", m.loudest(0), 0);
        MurmurHall one = new MurmurHall();
        Check.hall(one, "place a;slate s at a;caller p at a;cry p 1;call p 0 at 0;");
        Check.done(one, "first in beat 0", one.first(0), 0);
        Check.done(one, "last in beat 0", one.last(0), 0);
        Check.done(one, "loudest in beat 0", one.loudest(0), 0);
        m.hush(0);
        m.hush(0);
        m.hush(0);
        Check.refused(m, "first of none", m.first(0), 6);
        Check.refused(m, "last of none", m.last(0), 6);
        Check.refused(m, "loudest of none", m.loudest(0), 6);
        Check.done(m, "all of none", m.all(0), 0);
        for (int slate = -1; slate < 3; slate += 3) {
            Check.refused(m, "heard on no slate", m.heard(slate, 0), 1);
            Check.refused(m, "from on no slate", m.from(slate, 0), 1);
            Check.refused(m, "first on no slate", m.first(slate), 1);
            Check.refused(m, "last on no slate", m.last(slate), 1);
            Check.refused(m, "loudest on no slate", m.loudest(slate), 1);
            Check.refused(m, "all on no slate", m.all(slate), 1);
        }
        Check.refused(m, "beat -1", m.heard(0, -1), 1);
        Check.refused(m, "beat 91", m.heard(0, 91), 1);
        Check.refused(m, "from, beat -1", m.from(0, -1), 1);
        Check.refused(m, "from, beat 91", m.from(0, 91), 1);
    }

    /** Promises 36, 37, 38. */
    private static void recordedDiffersCopy() {
        MurmurHall m = Check.market();
        Check.refused(m, "recorded of nothing", m.recorded(0, 0), 6);
        Check.refused(m, "recorded of no slate", m.recorded(2, 0), 1);
        Check.refused(m, "differs from nothing", m.differs(), 6);
        m.record();
        Check.done(m, "recorded", m.recorded(1, 3), 10);
        Check.refused(m, "recorded, beat 91", m.recorded(1, 91), 1);
        Check.refused(m, "recorded, beat -1", m.recorded(1, -1), 1);
        Check.refused(m, "recorded, slate -1", m.recorded(-1, 0), 1);
        Check.done(m, "differs", m.differs(), 0);
        m.scrawl(0, 90, 1);
        Check.done(m, "differs by one", m.differs(), 1);
        m.hush(1);
        Check.done(m, "differs by more", m.differs(), 1 + 3 + 2);

        MurmurHall c = Check.market();
        Check.refused(c, "a missing tray", c.copyHeard(0, 0, 0, 3), 2);
        c.tray(0, 0, 6);
        c.tray(1, 0, 60);
        c.write(0, 5, 77);
        Check.done(c, "copyHeard", c.copyHeard(1, 0, 2, 3), 19);
        int[] row = {4, 10, 5, 0, 0, 77};
        for (int i = 0; i < 6; i++) Check.done(c, "copied", c.read(0, i), row[i]);
        Check.refused(c, "too few", c.copyHeard(1, 0, 2, 7), 3);
        Check.done(c, "none", c.copyHeard(1, 0, 90, 0), 0);
        Check.done(c, "up to the last beat", c.copyHeard(1, 1, 31, 60), 0);
        Check.refused(c, "further", c.copyHeard(1, 1, 32, 60), 1);
        Check.refused(c, "61", c.copyHeard(1, 1, 0, 61), 1);
        Check.refused(c, "-1", c.copyHeard(1, 1, 0, -1), 1);
        Check.refused(c, "beat 91", c.copyHeard(1, 1, 91, 0), 1);
        Check.refused(c, "beat -1", c.copyHeard(1, 1, -1, 1), 1);
        Check.refused(c, "no slate", c.copyHeard(2, 1, 0, 1), 1);
        Check.refused(c, "no tray", c.copyHeard(0, 4, 0, 1), 1);
        Check.refused(c, "no tray", c.copyHeard(0, -1, 0, 1), 1);
        Check.hall(c, "place a;slate s at a;caller p at a;cry p 99;cry p 99;call p 0 at 0;call p 1 at 0;");
        Check.done(c, "the sum as it is", c.copyHeard(0, 0, 0, 1), 198);
        Check.done(c, "cut to the tray's sort", c.read(0, 0), (byte) 198);
    }

    /** Promises 39 to 42. */
    private static void answers() {
        MurmurHall m = Check.market();
        Check.refused(m, "answers of nothing", m.answers(2), 6);
        Check.refused(m, "answerAt of nothing", m.answerAt(2, 0), 6);
        Check.refused(m, "with of nothing", m.with(2, 0, 0, 0), 6);
        Check.refused(m, "fewest of nothing", m.fewest(), 6);
        m.record();
        int[] many = {0, 0, 1, 1, 1};
        for (int n = 0; n <= 4; n++) {
            Check.done(m, "answers", m.answers(n), many[n]);
            Check.done(m, "with", m.with(n, 1, 0, 1), many[n]);
            Check.done(m, "without", m.with(n, 1, 0, 2), 0);
        }
        Check.done(m, "answerAt", m.answerAt(2, 0), 0);
        Check.done(m, "answerAt", m.answerAt(3, 1), 64);
        Check.refused(m, "no such call", m.answerAt(4, 2), 6);
        Check.refused(m, "no answer", m.answerAt(1, 0), 6);
        Check.done(m, "fewest", m.fewest(), 2);
        for (int n = -1; n <= 5; n += 6) {
            Check.refused(m, "answers", m.answers(n), 1);
            Check.refused(m, "answerAt", m.answerAt(n, 0), 1);
            Check.refused(m, "with", m.with(n, 0, 0, 0), 1);
        }
        Check.refused(m, "k below 0", m.answerAt(2, -1), 1);
        Check.refused(m, "no caller", m.with(2, 2, 0, 0), 1);
        Check.refused(m, "no cry", m.with(2, 1, 1, 0), 1);
        Check.refused(m, "beat 21", m.with(2, 1, 0, 21), 1);
        Check.refused(m, "beat -1", m.with(2, 1, 0, -1), 1);
        m.walk(1, 2);
        Check.done(m, "by callers where they are now", m.answers(4), 0);
        Check.refused(m, "fewest of none", m.fewest(), 6);
        m.walk(1, 1);
        m.hang(0, 1);
        Check.done(m, "by slates as they hang now", m.answers(4), 0);
        m.hang(0, 0);
        m.scrawl(0, 0, 8);
        Check.done(m, "by what is recorded now", m.answers(4), 0);
    }

    /** Promises 39 to 42 where several sets explain the sums, and where CALLS are not LOUD. */
    private static void severalAnswers() {
        MurmurHall m = new MurmurHall();
        // one place: 3 and 2 and 1 in one beat, or 5 and 1, or 6 alone; the deaf caller stands apart
        Check.hall(m, "place a;place b;slate s at a;caller p at a;cry p 3;cry p 2;cry p 1;caller q at a;cry q 5;cry q 6;cry q 1;"
            + "caller r at b;cry r 9;call q 1 at 4;call r 0 at 4;");
        Check.done(m, "record", m.record(), 6);
        // {q6} {p1,q5} {q5,q1} {p3,p2,p1} {p3,p2,q1}
        int[] many = {0, 1, 3, 5, 5};
        int[] first = {NONE, 88, 46, 4, 4};
        for (int n = 1; n <= 4; n++) {
            Check.done(m, "answers", m.answers(n), many[n]);
            Check.done(m, "the first one's first", m.answerAt(n, 0), first[n]);
        }
        Check.done(m, "its second", m.answerAt(2, 1), 67);
        Check.done(m, "its second", m.answerAt(3, 1), 25);
        Check.done(m, "its third", m.answerAt(3, 2), 46);
        Check.refused(m, "its fourth", m.answerAt(3, 3), 6);
        Check.done(m, "with p 3", m.with(3, 0, 0, 4), 2);
        Check.done(m, "with q 5", m.with(4, 1, 0, 4), 2);
        Check.done(m, "with one that is not loud", m.with(4, 2, 0, 4), 0);
        Check.done(m, "fewest", m.fewest(), 1);
        // {q5,q6,p1} {q5,q6,q1} {p3,p2,p1,q6} {p3,p2,q6,q1}
        m.scrawl(0, 4, 12);
        Check.done(m, "three together", m.answers(3), 2);
        Check.done(m, "four together", m.answers(4), 4);
        m.scrawl(0, 4, 0);
        Check.done(m, "nothing is explained by no calls", m.answers(0), 1);
        Check.done(m, "and by none but these", m.answers(4), 1);
        Check.done(m, "fewest is none", m.fewest(), 0);
        Check.refused(m, "no first call", m.answerAt(4, 0), 6);
        m.scrawl(0, 21, 1);
        Check.done(m, "too late for any beat", m.answers(4), 0);
    }

    /** Promises 43, 44. */
    private static void slips() {
        MurmurHall m = Check.market();
        Check.refused(m, "slips of nothing", m.slips(0), 6);
        Check.refused(m, "slipsAt of nothing", m.slipsAt(0, 0), 6);
        m.record();
        int[] slips = {8, 4, 0};
        for (int n = 0; n <= 2; n++) Check.done(m, "slips", m.slips(n), slips[n]);
        Check.done(m, "slipsAt", m.slipsAt(1, 0), 64);
        Check.refused(m, "no second", m.slipsAt(1, 1), 6);
        Check.refused(m, "none at all", m.slipsAt(0, 0), 6);
        Check.done(m, "slipsAt", m.slipsAt(2, 0), 0);
        Check.done(m, "slipsAt", m.slipsAt(2, 1), 64);
        Check.refused(m, "no third", m.slipsAt(2, 2), 6);
        m.scrawl(0, 0, 1);
        m.scrawl(1, 80, 7);
        Check.done(m, "slips scrawled over", m.slips(2), 2);
        Check.done(m, "the same calls", m.slipsAt(2, 1), 64);
        for (int n = -1; n <= 3; n += 4) {
            Check.refused(m, "slips", m.slips(n), 1);
            Check.refused(m, "slipsAt", m.slipsAt(n, 0), 1);
        }
        Check.refused(m, "k below 0", m.slipsAt(1, -1), 1);

        MurmurHall f = new MurmurHall();
        Check.hall(f, "place a;slate s at a;caller p at a;cry p 1;cry p 1 1;caller q at a;cry q 1;");
        f.record();
        Check.done(f, "nothing slips", f.slips(2), 0);
        Check.refused(f, "by none", f.slipsAt(2, 0), 6);
        f.scrawl(0, 3, 1);
        Check.done(f, "explained", f.slips(1), 0);
        Check.done(f, "by the first of two alike", f.slipsAt(1, 0), 3);
        f.scrawl(0, 3, 2);
        Check.done(f, "explained by two", f.slips(2), 0);
        Check.done(f, "the first", f.slipsAt(2, 0), 3);
        Check.done(f, "the second", f.slipsAt(2, 1), 66);
        f.scrawl(0, 3, 1);
        f.scrawl(0, 4, 1);
        f.scrawl(0, 5, 1);
        Check.done(f, "three in a row by two", f.slips(2), 0);
        Check.done(f, "the first", f.slipsAt(2, 0), 3);
        Check.done(f, "the second", f.slipsAt(2, 1), 25);
        f.scrawl(0, 5, 0);
        Check.done(f, "two in a row", f.slips(2), 0);
        Check.done(f, "the same cry in two beats comes first", f.slipsAt(2, 1), 4);
        f.scrawl(0, 4, 0);
        f.scrawl(0, 3, 9);
        Check.done(f, "a slip that none can mend", f.slips(2), 1);
        Check.refused(f, "so the least set", f.slipsAt(2, 0), 6);
    }

    /** Promises 45, 46. */
    private static void moved() {
        MurmurHall m = Check.market();
        Check.refused(m, "moved of nothing", m.moved(), 6);
        Check.refused(m, "movedAt of nothing", m.movedAt(0, 0), 6);
        m.record();
        Check.done(m, "no other one", m.moved(), 0);
        m.pave(1, 4, 1);
        Check.done(m, "the way back alone", m.moved(), 1);
        Check.done(m, "its way", m.movedAt(0, 0), 1);
        Check.done(m, "its long", m.movedAt(0, 1), 1);
        Check.done(m, "its loss", m.movedAt(0, 2), 2);
        Check.done(m, "the hall stays", m.way(1, 2), 4);
        Check.refused(m, "no second", m.movedAt(1, 0), 6);
        Check.refused(m, "k below 0", m.movedAt(-1, 0), 1);
        Check.refused(m, "what -1", m.movedAt(0, -1), 1);
        Check.refused(m, "what 3", m.movedAt(0, 3), 1);
        // by a third way nothing comes so long as it is no shorter
        Check.hall(m, "place a;place b;way a b long 2;way b a long 3 loses 1;slate s at b;caller p at a;cry p 5;call p 0 at 0;");
        m.record();
        Check.done(m, "all by which the sums stay", m.moved(), 80 - 1);
        Check.done(m, "the first way", m.movedAt(0, 0), 1);
        Check.done(m, "as long, with whatever loss", m.movedAt(0, 1), 2);
        Check.done(m, "the least loss", m.movedAt(0, 2), 0);
        Check.done(m, "then by loss", m.movedAt(1, 2), 1);
        Check.done(m, "then by long", m.movedAt(10, 1), 3);
        Check.done(m, "without the one that is", m.movedAt(11, 2), 2);
        Check.done(m, "the last", m.movedAt(78, 2), 9);
        m.hush(0);
        m.record();
        Check.done(m, "whatever was done to a silent hall", m.moved(), 2 * 89);
    }

    /** Promise 47. */
    private static void alike() {
        MurmurHall m = new MurmurHall();
        String base = "place a;place b;place c;place d;way a b long 2 loses 3;way b c long 1;slate s at b;"
            + "caller p at a;cry p 9 5;cry p 3 9 5;cry p 3;caller q at b;cry q 6 2;cry q 6;caller r at d;cry r 6 2;cry r 1;";
        Check.hall(m, base);
        Check.done(m, "later by the way", m.alike(0, 0, 1, 0), 2);
        Check.done(m, "earlier the other way round", m.alike(1, 0, 0, 0), -2);
        Check.done(m, "later by what is lost of its beginning", m.alike(0, 1, 0, 0), 1);
        Check.done(m, "-1 that is no NONE", m.alike(0, 0, 0, 1), -1);
        Check.refused(m, "unlike", m.alike(1, 0, 1, 1), 6);
        Check.done(m, "both silent", m.alike(0, 2, 2, 0), 0);
        Check.done(m, "both silent", m.alike(2, 1, 2, 0), 0);
        Check.refused(m, "one silent", m.alike(0, 0, 2, 0), 6);
        Check.refused(m, "itself", m.alike(0, 0, 0, 0), 1);
        Check.refused(m, "no caller", m.alike(3, 0, 0, 0), 1);
        Check.refused(m, "no caller", m.alike(0, 0, -1, 0), 1);
        Check.refused(m, "no cry", m.alike(0, 3, 0, 0), 1);
        Check.refused(m, "no cry", m.alike(0, 0, 1, 2), 1);
        m.hang(0, 2);
        Check.done(m, "further on alike, too", m.alike(0, 0, 1, 0), 2);
        m.hang(0, 0);
        Check.refused(m, "from the other side not", m.alike(0, 0, 1, 0), 6);
        Check.hall(m, "place a;caller p at a;cry p 1;cry p 2;");
        Check.done(m, "by no slates all are", m.alike(0, 0, 0, 1), 0);
        // two slates between which the beats do not agree
        Check.hall(m, "place a;place b;way a b long 2;slate s at a;slate t at b;caller p at a;cry p 5;caller q at b;cry q 5;");
        Check.refused(m, "two beats can't both be", m.alike(0, 0, 1, 0), 6);
        m.hang(1, 0);
        Check.done(m, "by one they are", m.alike(0, 0, 1, 0), -2);
        String far = "place a;place b;place c;place d;way a b long 9;way b c long 9;way c d long 2;slate s at a;"
            + "caller p at a;cry p 5;caller q at d;cry q 5;";
        Check.hall(m, far);
        Check.done(m, "20 earlier", m.alike(0, 0, 1, 0), -20);
        Check.done(m, "20 later", m.alike(1, 0, 0, 0), 20);
        m.pave(2, 3, 0);
        Check.refused(m, "21 earlier", m.alike(0, 0, 1, 0), 6);
        Check.refused(m, "21 later", m.alike(1, 0, 0, 0), 6);
        // a number lost within a cry is a silent beat of it
        Check.hall(m, "place a;place b;way a b long 1 loses 4;slate s at b;caller p at a;cry p 9 2 9;cry p 9 9;cry p 9 4 9;");
        Check.refused(m, "a gap is no end", m.alike(0, 0, 0, 1), 6);
        Check.done(m, "a gap is a gap", m.alike(0, 0, 0, 2), 0);
        // what is left of a cry may be its last number alone
        Check.hall(m, "place a;place b;way a b long 1 loses 4;slate s at b;caller p at a;cry p 4 3 5;cry p 5;cry p 1 5;");
        Check.done(m, "but the last is lost", m.alike(0, 0, 0, 1), 2);
        Check.done(m, "but the last is lost", m.alike(0, 1, 0, 0), -2);
        Check.done(m, "but the last is lost", m.alike(0, 0, 0, 2), 1);
    }

    /** Promises 48, 49, 50. */
    private static void partsAndHanging() {
        MurmurHall m = Check.market();
        int[] parts = {0, 1, 1, 1, 1, 1, 1, 1, 0, 1, 1, 1, 1, 1, 1, 1};
        for (int set = 0; set < 16; set++) Check.done(m, "parts " + set, m.parts(set), parts[set]);
        Check.refused(m, "a place too many", m.parts(16), 1);
        Check.refused(m, "below 0", m.parts(-1), 1);
        Check.done(m, "hanging", m.hanging(), 1);
        Check.done(m, "the least", m.hangingSet(), 1);
        // a's slate can't part p from q, b's can't part p's two: only both can
        Check.hall(m, "place a;place b;way a b long 1 loses 9;caller p at a;cry p 3;cry p 5;");
        Check.done(m, "at a", m.parts(1), 1);
        Check.done(m, "at b", m.parts(2), 0);
        Check.done(m, "hanging set", m.hangingSet(), 1);
        Check.hall(m, "place a;place b;place c;way a b long 1;way b c long 1;caller p at a;cry p 3;caller q at c;cry q 3;");
        for (int set = 0; set < 8; set++) Check.done(m, "parts " + set, m.parts(set), Integer.bitCount(set) > 1 ? 1 : 0);
        Check.done(m, "hanging", m.hanging(), 2);
        Check.done(m, "the least of three", m.hangingSet(), 3);
        m.walk(1, 0);
        Check.refused(m, "by none", m.hanging(), 6);
        Check.refused(m, "by none", m.hangingSet(), 6);
        Check.done(m, "not by all", m.parts(7), 0);
        Check.hall(m, "place a;caller p at a;cry p 3;");
        Check.done(m, "one cry needs none", m.hanging(), 0);
        Check.done(m, "one cry needs none", m.hangingSet(), 0);
        Check.done(m, "no slate parts it", m.parts(0), 1);
    }

    /** Promises 51, 52. */
    private static void chanceAndQuiet() {
        MurmurHall m = Check.market();
        int[][] due = {{0, 1, 1}, {1, 3, 4}, {2, 1, 2}, {9, 1, 2}, {10, 1, 4}, {11, 0, 1}, {999, 0, 1}};
        for (int[] row : due) {
            // in beat 3 the first says 9 and the second 1 on t
            Check.done(m, "chance", m.chance(1, 3, row[0]));
            Check.fraction(m, "chance of " + row[0], row[1], row[2]);
        }
        m.rule(4);
        Check.done(m, "chance", m.chance(1, 3, 1));
        Check.fraction(m, "by other odds", 15, 16);
        m.rule(0);
        Check.done(m, "chance", m.chance(1, 3, 10));
        Check.fraction(m, "nothing is lost", 1, 1);
        m.rule(16);
        Check.done(m, "chance", m.chance(1, 3, 1));
        Check.fraction(m, "all is lost", 0, 1);
        m.rule(1);
        for (int i = 0; i < 6; i++) m.say(0, 1, 15 + i);
        Check.done(m, "chance", m.chance(1, 3, 10));
        Check.fraction(m, "others do not matter", 225, 256);
        Check.done(m, "quiet", m.quiet(0));
        Check.fraction(m, "eight lost at once", 1, 1L << 32);
        m.walk(0, 3);
        Check.done(m, "quiet", m.quiet(1));
        Check.fraction(m, "but one is heard", 1, 16);
        m.walk(1, 3);
        Check.done(m, "quiet", m.quiet(1));
        Check.fraction(m, "none is heard", 1, 1);
        for (int slate = -1; slate < 3; slate += 3) {
            Check.refused(m, "chance on no slate", m.chance(slate, 0, 0), 1);
            Check.refused(m, "quiet on no slate", m.quiet(slate), 1);
        }
        Check.refused(m, "beat -1", m.chance(0, -1, 0), 1);
        Check.refused(m, "beat 91", m.chance(0, 91, 0), 1);
        Check.refused(m, "k -1", m.chance(0, 0, -1), 1);
        Check.refused(m, "k 1000", m.chance(0, 0, 1000), 1);
        Check.hall(m, "odds 3;place a;slate s at a;caller p at a;cry p 1;call p 0 at 0;call p 0 at 1;");
        Check.done(m, "quiet", m.quiet(0));
        Check.fraction(m, "two lost", 9, 256);
        Check.hall(m, "place a;place b;way a b long 1 loses 9;slate s at b;caller p at a;cry p 9;call p 0 at 0;");
        Check.done(m, "quiet", m.quiet(0));
        Check.fraction(m, "what is lost on the way is not heard", 1, 1);
    }

    private static void lived(MurmurHall m, int... due) {
        for (int what = 0; what < due.length; what++) Check.done(m, "lived " + what, m.lived(what), due[what]);
    }

    /** Promises 53, 54: each STEP as it is told. */
    private static void live() {
        MurmurHall m = Check.market();
        Check.refused(m, "no mornings", m.live(0), 6);
        Check.refused(m, "seed ahead of mornings", m.live(-1), 1);
        Check.refused(m, "none was lived", m.lived(0), 6);
        Check.mornings(m, "say p 1 7;record;hush;hush;walk p b;stop;any;");
        Check.refused(m, "seed -1", m.live(-1), 1);
        Check.refused(m, "seed 10000", m.live(10000), 1);
        Check.refused(m, "still none was lived", m.lived(0), 6);
        Check.done(m, "live", m.live(9999), 6);
        lived(m, 0, 1, 2, 1, 0);
        Check.refused(m, "lived -1", m.lived(-1), 1);
        Check.refused(m, "lived 5", m.lived(5), 1);
        Check.done(m, "all is as it is then: calls", m.told(4), 1);
        Check.done(m, "a caller walked", m.caller(0, 0), 1);
        Check.done(m, "recorded with three calls", m.recorded(0, 7), 7);
        Check.mornings(m, "when at p b;walk p a;end;when at p b;walk p c;end;");
        Check.done(m, "one when holds", m.live(0), 3);
        lived(m, 0, 0, 0, 1, 0);
        Check.done(m, "he is at a", m.caller(0, 0), 0);
        // on s in beat 0 now: 9
        String[] holds = {"heard s 0=9", "heard s 0>8", "heard s 0<10", "calls=1", "calls>0", "calls<2"};
        String[] fails = {"heard s 0=8", "heard s 0>9", "heard s 0<9", "calls=0", "calls>1", "calls<1", "heard t 0=9", "at q a"};
        for (String test : holds) {
            Check.mornings(m, "when " + test + ";record;record;end;");
            Check.done(m, test, m.live(0), 3);
        }
        for (String test : fails) {
            Check.mornings(m, "when " + test + ";record;record;end;");
            Check.done(m, test, m.live(0), 1);
        }
        Check.mornings(m, "loop 2;record;loop 3;record;end;end;record;");
        Check.done(m, "loops within loops", m.live(0), 1 + 2 * (1 + 1 + 3) + 1);
        Check.mornings(m, "loop 9;when calls>0;hush;end;when calls=0;stop;end;end;");
        Check.done(m, "a stop within", m.live(0), 1 + 2 + 1 + 1);
        lived(m, 0, 0, 1, 0, 0);
        Check.refused(m, "a live that can't be", m.live(10000), 1);
        lived(m, 0, 0, 1, 0, 0);
        Check.hall(m, "place a;");
        lived(m, 0, 0, 1, 0, 0);
    }

    /** Promise 54: what can't be is MISSED, and counts as a STEP. */
    private static void liveMissed() {
        MurmurHall m = Check.market();
        Check.mornings(m, "say p 0 0;say q 1 0;walk p a;loop 9;hush;end;");
        Check.done(m, "live", m.live(0), 13);
        lived(m, 1 + 1 + 1 + 7, 0, 2, 0, 0);
        Check.mornings(m, "say q 0 0;say q 0 1;say q 0 2;say q 0 3;say q 0 4;say q 0 5;say q 0 6;say q 0 7;say q 0 8;");
        Check.done(m, "live", m.live(0), 9);
        lived(m, 1, 8, 0, 0, 0);
        Check.hall(m, "place a;");
        Check.mornings(m, "any;any;hush;");
        Check.done(m, "live without callers", m.live(0), 3);
        lived(m, 3, 0, 0, 0, 0);
    }

    /** Promises 53, 54: 300 STEPS at most. */
    private static void liveLimit() {
        MurmurHall m = Check.market();
        Check.mornings(m, "loop 99;record;record;end;" + "record;".repeat(27));
        Check.done(m, "few enough", m.live(0), 226);
        lived(m, 0, 0, 0, 0, 0);
        Check.mornings(m, "loop 99;record;record;end;loop 99;record;end;record;record;");
        Check.done(m, "one too many", m.live(0), 300);
        lived(m, 0, 0, 0, 0, 1);
        Check.mornings(m, "loop 99;record;record;end;loop 99;record;end;record;");
        Check.done(m, "as many as may be", m.live(0), 300);
        lived(m, 0, 0, 0, 0, 0);
        Check.mornings(m, "loop 99;record;record;end;loop 99;record;end;record;stop;");
        Check.done(m, "a stop that is left", m.live(0), 300);
        lived(m, 0, 0, 0, 0, 1);
        Check.mornings(m, "loop 99;record;record;end;loop 99;record;end;stop;record;");
        Check.done(m, "a stop in time", m.live(0), 300);
        lived(m, 0, 0, 0, 0, 0);
        Check.mornings(m, "loop 99;loop 99;loop 99;end;end;end;");
        Check.done(m, "loops alone", m.live(0), 300);
        lived(m, 0, 0, 0, 0, 1);
        Check.mornings(m, "loop 99;end;loop 2;loop 99;end;end;");
        Check.done(m, "empty loops count as they are come to", m.live(0), 4);
        lived(m, 0, 0, 0, 0, 0);
        Check.mornings(m, "loop 99;when calls=8;any;end;end;");
        Check.done(m, "a when counts each time", m.live(0), 100);
    }

    /** Promise 53: draws, all three first. */
    private static void liveDraws() {
        String hall = "place a;slate s at a;caller p at a;caller q at a;caller r at a;cry p 1;cry q 1;cry r 1;";
        for (int seed = 0; seed <= 9999; seed += 1111) {
            MurmurHall m = new MurmurHall();
            Check.hall(m, hall);
            Check.mornings(m, "loop 60;any;when calls=8;stop;end;end;");
            m.live(seed);
            int s = seed;
            int said = 0;
            boolean[] told = new boolean[315];
            for (int turn = 0; turn < 60 && said < 8; turn++) {
                int[] drawn = new int[3];
                int[] by = {3, 3, 21};
                for (int i = 0; i < 3; i++) {
                    s = (s * 3203 + 11437) % 65536;
                    drawn[i] = s / 8 % by[i];
                }
                int number = drawn[0] * 63 + drawn[1] * 21 + drawn[2];
                if (drawn[1] == 0 && !told[number]) {
                    told[number] = true;
                    for (int what = 0; what < 3; what++) Check.done(m, "drawn", m.call(said, what), drawn[what]);
                    said++;
                }
            }
            Check.done(m, "so many were said", m.told(4), said);
            Check.done(m, "so many were said", m.lived(1), said);
        }
    }

    /** Promise 55. */
    private static void mean() {
        MurmurHall m = Check.market();
        Check.refused(m, "no mornings", m.mean(0, 1), 6);
        Check.refused(m, "seed ahead of mornings", m.mean(-1, 1), 1);
        Check.mornings(m, "any;any;record;walk p b;");
        Check.refused(m, "seed -1", m.mean(-1, 1), 1);
        Check.refused(m, "seed 10000", m.mean(10000, 1), 1);
        Check.refused(m, "many 0", m.mean(0, 0), 1);
        Check.refused(m, "many 21", m.mean(0, 21), 1);
        Check.refused(m, "the last above", m.mean(9981, 20), 1);
        Check.refused(m, "far above", m.mean(Integer.MAX_VALUE, 20), 1);
        Check.done(m, "the last just so", m.mean(9980, 20));
        Check.done(m, "the last alone", m.mean(9999, 1));
        Check.refused(m, "the last and one more", m.mean(9999, 2), 1);
        long together = 0;
        for (int seed = 5; seed < 12; seed++) {
            m.mark();
            m.live(seed);
            together += m.all(0) + m.all(1);
            m.undo();
        }
        int[] lived = {m.lived(0), m.lived(1), m.lived(2), m.lived(3), m.lived(4)};
        Check.done(m, "mean", m.mean(5, 7));
        Check.due("the mean", m.top() * 7, together * m.bottom());
        Check.due("without a common divisor", m.bottom() == 1 || m.bottom() == 7, true);
        Check.done(m, "calls stay", m.told(4), 2);
        Check.done(m, "callers stay", m.caller(0, 0), 0);
        Check.done(m, "nothing is recorded", m.told(6), 0);
        lived(m, lived);
        Check.mornings(m, "hush;hush;");
        Check.done(m, "mean of silence", m.mean(0, 20));
        Check.fraction(m, "mean of silence", 0, 1);
    }

    /** Promises 56, 57. */
    private static void marks() {
        MurmurHall m = Check.market();
        Check.mornings(m, "any;");
        m.tray(0, 0, 1);
        Check.done(m, "mark", m.mark(), 1);
        m.say(0, 1, 9);
        m.record();
        Check.done(m, "mark", m.mark(), 2);
        m.scrawl(0, 0, 500);
        m.walk(0, 3);
        m.hang(0, 3);
        m.pave(2, 1, 1);
        m.teach(1, 5, 0, 0);
        m.rule(2);
        m.hush(0);
        Check.mornings(m, "any;any;");
        Check.done(m, "mark", m.mark(), 3);
        Check.refused(m, "a fourth", m.mark(), 4);
        Check.done(m, "a hall", Check.hall(m, "place z;"), 0);
        m.write(0, 0, 42);
        m.feed(0, 0, 0, 0, 0);
        Check.done(m, "undo", m.undo(), 2);
        Check.done(m, "the hall ahead is there", m.told(0), 4);
        Check.done(m, "with what became of it", m.caller(0, 0), 3);
        Check.done(m, "what is recorded", m.recorded(0, 0), 500);
        Check.done(m, "its mornings, too", m.live(0), 2);
        Check.done(m, "its names, too", Check.mornings(Check.market(), "walk p a;"), 1);
        Check.done(m, "undo", m.undo(), 1);
        Check.done(m, "recorded", m.recorded(0, 0), 9);
        Check.done(m, "caller", m.caller(0, 0), 0);
        Check.done(m, "slate", m.slate(0), 0);
        Check.done(m, "way", m.way(2, 2), 3);
        Check.done(m, "far", m.far(0, 2), 3);
        Check.done(m, "cries", m.told(7), 3);
        Check.done(m, "odds", m.told(5), 8);
        Check.done(m, "calls", m.told(4), 3);
        Check.done(m, "mornings", m.live(0), 1);
        Check.done(m, "a mark again", m.mark(), 2);
        Check.done(m, "and back", m.undo(), 1);
        Check.done(m, "undo", m.undo(), 0);
        Check.done(m, "nothing is recorded", m.told(6), 0);
        Check.done(m, "calls", m.told(4), 2);
        Check.refused(m, "no more", m.undo(), 6);
        Check.done(m, "trays stay", m.read(0, 0), 42);
        Check.due("the tape stays", m.feed(0, 0, 0, 0, 0), 40);
        Check.done(m, "lived stays", m.lived(4), 0);
    }
}
