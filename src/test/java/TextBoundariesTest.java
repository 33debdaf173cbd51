/** Boundary cases of texts: TOKENS, HALLS and MORNINGS and their FAULTS (promises 10, 11, 12). */
public final class TextBoundariesTest {
    private static final int NONE = MurmurHall.NONE;
    private static final int LEAST = Integer.MIN_VALUE;
    private static final int MOST = Integer.MAX_VALUE;
    private static final String WORDS = "odds place way long loses slate at caller cry call say hush walk record any when heard calls "
        + "loop end stop";
    private static final String TWO = "place a;place b;";
    private static final String ONE = "place a;caller p at a;";
    private static final String CRIER = "place a;caller p at a;cry p 7;";

    public static void main(String[] args) { Boundaries.run(TextBoundariesTest.class); }

    /** The text is taken as a HALL. */
    private static MurmurHall taken(String text) {
        MurmurHall m = Check.of(text);
        Check.due("fault(0) of [" + text + "]", m.fault(0), 0);
        Check.due("fault(1) of [" + text + "]", m.fault(1), NONE);
        return m;
    }

    /** Behind what is fine, something with a FAULT, at a place counted from there. */
    private static void fault(String fine, String rest, int kind, int place) {
        Check.hallFault(fine + rest, kind, fine.length() + place);
    }

    /** The text is taken as MORNINGS of the market, with so many STEPS. */
    private static MurmurHall takenMornings(String text, int steps) {
        MurmurHall m = Check.market();
        Check.done(m, "mornings [" + text + "]", Check.mornings(m, text), steps);
        Check.due("fault(0) of [" + text + "]", m.fault(0), 0);
        Check.due("fault(1) of [" + text + "]", m.fault(1), NONE);
        return m;
    }

    // ---- ==== 1.: TOKENS

    @Says(of = 0, value = "A HALL is a TEXT of at most 900 bytes.")
    static void hallOfNineHundredBytes() {
        MurmurHall m = taken("place a;" + " ".repeat(884) + "odds 03;");
        Check.done(m, "its odds", m.told(5), 3);
        Check.hallFault(" ".repeat(895) + "place", 2, 900);
        Check.hallFault(" ".repeat(899) + "A", 1, 899);
    }

    @Says(of = 0, value = "TOKENS, as long as they go")
    static void tokensGoAsLongAsTheyCan() {
        Check.hallFault("placea;", 2, 0);
        Check.hallFault("pla ce a;", 2, 0);
        Check.hallFault("odds 1 6;", 2, 7);
        Check.hallFault("place a b;", 2, 8);
        Check.hallFault("place a1;", 2, 7);
        // 59 is the byte of ; and 60 to 62 are those of the other signs
        Check.hallFault("place a 59", 2, 8);
        for (int i = 60; i <= 62; i++) Check.morningsFault("when calls " + i, 2, 11);
        Check.due("a word beside a number", taken("odds16;").told(5), 16);
        Check.due("a number beside a word", taken(CRIER + "call p 0at 20;").call(0, 2), 20);
    }

    @Says(of = 0, value = "between them blanks (10, 32)")
    static void blanksAreTwo() {
        Check.due("blanks anywhere, many", taken("\n\n place\n \na\n;  \n").told(0), 1);
        for (int sign : new int[] {0, 9, 11, 12, 13, 31, 33, 127, 128, 138, 160, 255}) {
            Check.hallFault("place a;" + (char) sign, 1, 8);
        }
    }

    @Says(of = 0, value = "NUMBERS (1 to 4 digits)")
    static void numbersOfOneToFourDigits() {
        String[] fine = {"odds 0;", "odds 16;", "odds 016;", "odds 0016;"};
        int[] odds = {0, 16, 16, 16};
        for (int i = 0; i < 4; i++) Check.due(fine[i], taken(fine[i]).told(5), odds[i]);
        Check.hallFault("odds 9999;", 4, 5);
        Check.hallFault("odds 00016;", 1, 5);
    }

    @Says(of = 0, value = {"WORDS (small letters)", "SIGNS ; < > ="})
    static void signsAreFour() {
        for (String sign : new String[] {"<", ">", "="}) Check.hallFault("place a" + sign, 2, 7);
        for (char sign : new char[] {'!', '"', '#', '+', ',', '-', '.', '/', ':', '?', '@', 'A', 'Z', '[', '_', '`', '{', '|', '~'}) {
            Check.hallFault("place a" + sign, 1, 7);
        }
    }

    @Says(of = 0, value = {"HALL: {PART}.", "({ } any number of times, [ ] perhaps.)"})
    static void hallOfNoPart() {
        Check.due("nothing", taken("").told(0), 0);
        Check.due("blanks", taken(" \n ").told(0), 0);
    }

    /**
     * Each TOKEN of a PART, or STEP, behind the first in turn is one that can't stand there: FAULT 2, at that one. Behind
     * a TOKEN and / stand others that may be there, too.
     */
    private static void eachTokenInTurn(String fine, String part, boolean isHall) {
        StringBuilder ahead = new StringBuilder(fine);
        for (String token : part.split(" ")) {
            String[] may = token.split("/");
            for (String other : new String[] {"x", "7", ";", "<", "at", "long", "any"}) {
                boolean stands = ahead.length() == fine.length();
                for (String one : may) stands |= sortOf(one).equals(sortOf(other));
                if (!stands && isHall) Check.hallFault(ahead + other, 2, ahead.length());
                if (!stands && !isHall) Check.morningsFault(ahead + other, 2, ahead.length());
            }
            ahead.append(may[0]).append(' ');
        }
    }

    private static String sortOf(String token) {
        boolean word = (" " + WORDS + " ").contains(" " + token + " ");
        if (!word && token.matches("[a-z]+")) return "name";
        return token.matches("[0-9]+") ? "number" : token;
    }

    @Says(of = 0, value = {"PART: odds NUMBER ; or place NAME ; or way NAME NAME long NUMBER [loses NUMBER] ; or slate NAME at NAME ; or "
        + "caller NAME at NAME ; or cry NAME NUMBER [NUMBER [NUMBER]] ; or call NAME NUMBER at NUMBER ;", "2 it can't stand there"})
    static void eachTokenOfAPart() {
        String fine = "place u;place v;caller p at u;cry p 5;";
        eachTokenInTurn(fine, "odds 3 ;", true);
        eachTokenInTurn(fine, "place w ;", true);
        eachTokenInTurn(fine, "way u v long 3 ;/loses", true);
        eachTokenInTurn(fine, "way u v long 3 loses/; 4 ;", true);
        eachTokenInTurn(fine, "slate w at u ;", true);
        eachTokenInTurn(fine, "caller w at u ;", true);
        eachTokenInTurn(fine, "cry p 1 ;/7", true);
        eachTokenInTurn(fine, "cry p 1 2/; ;/7", true);
        eachTokenInTurn(fine, "cry p 1 2/; 3/; ;", true);
        eachTokenInTurn(fine, "call p 0 at 3 ;", true);
        for (String other : "x 7 ; < > = at long loses say hush walk record any when heard calls loop end stop".split(" ")) fault(fine, other, 2, 0);
    }

    @Says(of = 0, value = {"STEP: say NAME NUMBER NUMBER ;", "FAULTS: 1, 2 as above"})
    static void eachTokenOfAStep() {
        eachTokenInTurn("", "say p 0 3 ;", false);
        eachTokenInTurn("", "hush ;", false);
        eachTokenInTurn("", "walk p a ;", false);
        eachTokenInTurn("", "record ;", false);
        eachTokenInTurn("", "any ;", false);
        eachTokenInTurn("", "stop ;", false);
        eachTokenInTurn("", "loop 3 ;", false);
        eachTokenInTurn("loop 3;", "end ;", false);
        eachTokenInTurn("", "when calls/at =/< 3 ;", false);
        eachTokenInTurn("", "when heard/at s 3 >/< 3 ;", false);
        eachTokenInTurn("", "when at p a ;", false);
        for (String step : new String[] {"say p", "walk p", "when at p", "when heard s 3", "loop", "hush", "end", ""}) {
            Check.morningsFault("loop 3;" + step + " #", 1, 8 + step.length());
            Check.morningsFault("loop 3;" + step + " 12345", 1, 8 + step.length());
        }
    }

    @Says(of = 0, value = "NAME: a WORD of 1 to 8 letters")
    static void namesOfOneToEightLetters() {
        Check.due("all names", taken("place a;place z;place abcdefgh;place zzzzzzzz;place abcdefg;").told(0), 5);
        Check.hallFault("place abcdefghi;", 2, 6);
        Check.hallFault("place " + "z".repeat(800) + ";", 2, 6);
        Check.hallFault("place abcdefgh;place abcdefgh;", 3, 21);
        taken("place abcdefgh;place abcdefgi;place bbcdefgh;");
    }

    @Says(of = 0, value = "that is none of odds, place, way, long, loses, slate, at, caller, cry, call, say, hush, walk, record, any, when, "
        + "heard, calls, loop, end, stop.")
    static void wordsAreNoNames() {
        for (String word : WORDS.split(" ")) {
            Check.hallFault("place " + word + ";", 2, 6);
            fault(TWO, "slate " + word + " at a;", 2, 6);
            fault(TWO, "caller " + word + " at a;", 2, 7);
            taken("place " + word + "x;place x" + word + ";place x" + word.substring(1) + ";");
        }
    }

    @Says(of = 0, value = {"One NAME is of one thing alone.", "3 a new NAME that is taken"})
    static void oneNameOfOneThing() {
        String[] first = {"place n;", "slate n at a;", "caller n at a;"};
        String[] again = {"place ", "slate ", "caller "};
        for (String one : first) {
            for (String other : again) fault("place a;" + one, other + "n at a;", 3, other.length());
        }
    }

    // ---- what a HALL may have

    @Says(of = 0, value = "ODDS (0 to 16; 4 without).")
    static void oddsOfAText() {
        Check.due("least", taken("odds 0;").told(5), 0);
        Check.due("most", taken("odds 16;").told(5), 16);
        Check.due("without", taken("place a;").told(5), 4);
        Check.hallFault("odds 17;", 4, 5);
        MurmurHall m = taken("odds 9;");
        Check.done(m, "a text without, behind one with", Check.hall(m, "place a;"), 0);
        Check.done(m, "its odds", m.told(5), 4);
    }

    @Says(of = 0, value = {"PLACES, at most 7.", "6 an eighth place"})
    static void placesOfAText() {
        String seven = "place a;place b;place c;place d;place e;place f;place g;";
        Check.due("seven", taken(seven).told(0), 7);
        fault(seven, "place h;", 6, 0);
        fault(seven, "place", 6, 0);
        fault(seven, "place a;", 6, 0);
    }

    @Says(of = 0, value = {"WAYS, at most 10", "an 11th way"})
    static void waysOfAText() {
        String ten = TWO + "way a b long 1;way b a long 2;".repeat(5);
        Check.due("ten", taken(ten).told(1), 10);
        fault(ten, "way a b long 1;", 6, 0);
        fault(ten, "way 1", 6, 0);
    }

    @Says(of = 0, value = {"between two PLACES", "a way from a PLACE to itself (at the second NAME)"})
    static void wayToItself() {
        fault(TWO, "way a a long 1;", 5, 6);
        fault(TWO, "way b b", 5, 6);
        fault(TWO + "slate s at a;caller p at a;", "way a s long 1;", 3, 6);
        fault(TWO + "slate s at a;caller p at a;", "way p a long 1;", 3, 4);
    }

    @Says(of = 0, value = "so LONG (1 to 9 BEATS)")
    static void longOfAWay() {
        MurmurHall m = taken(TWO + "way a b long 1;way a b long 9;");
        Check.done(m, "least", m.way(0, 2), 1);
        Check.done(m, "most", m.way(1, 2), 9);
        fault(TWO, "way a b long 0;", 4, 13);
        fault(TWO, "way a b long 10;", 4, 13);
        fault(TWO, "way a b;", 2, 7);
        fault(TWO, "way a b loses 1;", 2, 8);
        fault(TWO, "way a b long;", 2, 12);
    }

    @Says(of = 0, value = "with a LOSS (0 to 9; 0 without)")
    static void lossOfAWay() {
        MurmurHall m = taken(TWO + "way a b long 1 loses 0;way a b long 1 loses 9;way a b long 1;");
        Check.done(m, "least", m.way(0, 3), 0);
        Check.done(m, "most", m.way(1, 3), 9);
        Check.done(m, "without, behind one with", m.way(2, 3), 0);
        fault(TWO, "way a b long 1 loses 10;", 4, 21);
        fault(TWO, "way a b long 1 loses;", 2, 20);
        fault(TWO, "way a b long 1 loses 1 loses 1;", 2, 23);
    }

    @Says(of = 0, value = {"SLATES, at most 4", "a fifth slate"})
    static void slatesOfAText() {
        String four = "place a;slate r at a;slate s at a;slate t at a;slate u at a;";
        Check.due("four", taken(four).told(2), 4);
        fault(four, "slate v at a;", 6, 0);
        fault(four, "slate", 6, 0);
    }

    @Says(of = 0, value = {"CALLERS, at most 5", "a sixth caller"})
    static void callersOfAText() {
        String five = "place a;caller p at a;caller q at a;caller r at a;caller s at a;caller t at a;";
        Check.due("five", taken(five).told(3), 5);
        fault(five, "caller u at a;", 6, 0);
        fault(five, "caller", 6, 0);
    }

    @Says(of = 0, value = "AT a PLACE (several may be at one)")
    static void severalAtOnePlace() {
        MurmurHall m = taken("place a;place b;slate s at b;slate t at b;caller p at b;caller q at b;");
        for (int i = 0; i < 2; i++) {
            Check.done(m, "slate", m.slate(i), 1);
            Check.done(m, "caller", m.caller(i, 0), 1);
        }
        fault("place a;", "slate s at s;", 3, 11);
        fault("place a;", "caller p at p;", 3, 12);
    }

    @Says(of = 0, value = {"CRIES of a CALLER, at most 3, in order", "a fourth cry of one CALLER (at the NAME)"})
    static void criesOfAText() {
        String three = "place a;caller p at a;caller q at a;cry p 1;cry q 9;cry p 2;cry p 3;";
        MurmurHall m = taken(three);
        for (int cry = 0; cry < 3; cry++) Check.done(m, "in order", m.cry(0, cry, 0), cry + 1);
        fault(three, "cry p 4;", 6, 4);
        fault(three, "cry p", 6, 4);
        Check.due("another one's third", taken(three + "cry q 4;cry q 5;").told(7), 6);
    }

    @Says(of = 0, value = "1 to 3 numbers (1 to 99)")
    static void numbersOfACry() {
        MurmurHall m = taken(ONE + "cry p 1;cry p 99 1;cry p 1 99 99;");
        int[][] due = {{1, NONE, NONE}, {99, 1, NONE}, {1, 99, 99}};
        for (int cry = 0; cry < 3; cry++) for (int i = 0; i < 3; i++) Check.due("number", m.cry(0, cry, i), due[cry][i]);
        fault(ONE, "cry p;", 2, 5);
        fault(ONE, "cry p 0;", 4, 6);
        fault(ONE, "cry p 100;", 4, 6);
        fault(ONE, "cry p 1 0;", 4, 8);
        fault(ONE, "cry p 1 100;", 4, 8);
        fault(ONE, "cry p 1 1 0;", 4, 10);
        fault(ONE, "cry p 1 1 100;", 4, 10);
        fault(ONE, "cry p 1 1 1 1;", 2, 12);
    }

    @Says(of = 0, value = {"CALLS, at most 8", "a ninth call (at that WORD)"})
    static void callsOfAText() {
        StringBuilder eight = new StringBuilder(CRIER);
        for (int i = 0; i < 8; i++) eight.append("call p 0 at ").append(i).append(';');
        Check.due("eight", taken(eight.toString()).told(4), 8);
        fault(eight.toString(), "call p 0 at 8;", 6, 0);
        fault(eight.toString(), "call p 0 at 0;", 6, 0);
        fault(eight.toString(), "call", 6, 0);
    }

    @Says(of = 0, value = {"a CALLER, which CRY (0 on)", "4 a NUMBER that can't be (no such CRY, too)."})
    static void cryOfACall() {
        MurmurHall m = taken(CRIER + "cry p 8;call p 0 at 0;call p 1 at 0;");
        Check.done(m, "the first", m.call(0, 1), 0);
        Check.done(m, "the last", m.call(1, 1), 1);
        fault(CRIER, "call p 1 at 0;", 4, 7);
        fault(CRIER, "call p 9999 at 0;", 4, 7);
        fault(ONE, "call p 0 at 0;", 4, 7);
        fault(CRIER + "caller q at a;", "call q 0 at 0;cry q 1;", 4, 7);
    }

    @Says(of = 0, value = "AT which BEAT (0 to 20)")
    static void beatOfACall() {
        MurmurHall m = taken(CRIER + "call p 0 at 0;call p 0 at 20;");
        Check.done(m, "the first", m.call(0, 2), 0);
        Check.done(m, "the last", m.call(1, 2), 20);
        fault(CRIER, "call p 0 at 21;", 4, 12);
        fault(CRIER, "call p 0 20;", 2, 9);
        fault(CRIER, "call p 0 at;", 2, 11);
    }

    @Says(of = 0, value = "a CALL that is told (at its BEAT)")
    static void callToldTwice() {
        fault(CRIER + "call p 0 at 20;", "call p 0 at 20;", 5, 12);
        fault(CRIER + "call p 0 at 20;", "call p 0 at 0020", 5, 12);
        Check.due("unlike", taken(CRIER + "cry p 7;caller q at a;cry q 7;call p 0 at 5;call p 0 at 6;call p 1 at 5;call q 0 at 5;").told(4), 4);
    }

    @Says(of = 0, value = "odds told already (at that WORD)")
    static void oddsToldTwice() {
        Check.hallFault("odds 4;odds 4;", 5, 7);
        Check.hallFault("odds 4;place a;odds", 5, 15);
        Check.hallFault("odds 4;odds 17;", 5, 7);
    }

    @Says(of = 0, value = {"All are numbered as they stand", "what a PART names must be told ahead."})
    static void namesToldAhead() {
        MurmurHall m = taken("place b;place a;slate t at a;slate s at b;caller q at a;caller p at b;");
        Check.done(m, "the first slate", m.slate(0), 1);
        Check.done(m, "the second slate", m.slate(1), 0);
        Check.done(m, "the first caller", m.caller(0, 0), 1);
        Check.hallFault("place a;way a b long 1;place b;", 3, 14);
        Check.hallFault("place b;way a b long 1;place a;", 3, 12);
        Check.hallFault("slate s at a;place a;", 3, 11);
        Check.hallFault("caller s at a;place a;", 3, 12);
        Check.hallFault("place a;cry p 1;caller p at a;", 3, 12);
        Check.hallFault("place a;call p 0 at 0;caller p at a;", 3, 13);
    }

    // ---- FAULTS

    @Says(of = 0, value = "FAULTS, the first along the text")
    static void theFirstFaultCounts() {
        Check.hallFault("odds 17;#", 4, 5);
        Check.hallFault("place a;place a;12345", 3, 14);
        Check.hallFault("odds 1;odds 2;place", 5, 7);
        Check.hallFault("place a b;odds 17;", 2, 8);
        Check.hallFault("place a;way a a long 0;", 5, 14);
        Check.morningsFault("loop 0;end;end;", 4, 5);
    }

    @Says(of = 0, value = "(of one TOKEN the least kind)")
    static void ofOneTokenTheLeastKind() {
        fault(TWO, "way a 12345", 1, 6);
        Check.hallFault("odds 99999;", 1, 5);
        Check.hallFault("place a;place abcdefghi;", 2, 14);
        fault(TWO, "slate s at abcdefghi;", 2, 11);
        Check.hallFault("odds a;", 2, 5);
        fault(TWO + "caller p at a;cry p 1;cry p 1;cry p 1;", "cry q 1;", 3, 4);
        Check.morningsFault("any;".repeat(30) + "#", 1, 120);
        Check.morningsFault("any;".repeat(30) + "place", 2, 120);
        Check.morningsFault("any;".repeat(30) + "end;", 2, 120);
        Check.morningsFault("any;".repeat(27) + "loop 1;".repeat(3) + "loop 1;", 6, 129);
    }

    @Says(of = 0, value = "1 no TOKEN begins so (a NUMBER of 5 digits and more: at its first)")
    static void fiveDigitsAndMore() {
        Check.hallFault("odds 00001;", 1, 5);
        Check.hallFault("odds " + "1".repeat(400) + ";", 1, 5);
        Check.hallFault("12345", 1, 0);
        Check.hallFault("place a 12345", 1, 8);
        fault(ONE, "cry p 1 12345;", 1, 8);
        fault(ONE, "cry p 1 2 12345;", 1, 10);
        fault(TWO, "way a b long 12345;", 1, 13);
        fault(CRIER, "call p 12345 at 0;", 1, 7);
    }

    @Says(of = 0, value = "2 it can't stand there (the end: the text's length")
    static void theEndIsAtTheTextsLength() {
        String[] cut = {"odds", "odds 4", "place", "place a", "way", TWO + "way a", TWO + "way a b", TWO + "way a b long", TWO + "way a b long 1",
            TWO + "way a b long 1 loses", TWO + "way a b long 1 loses 1", "slate", "place a;slate s", "place a;slate s at", "place a;slate s at a",
            "caller", "place a;caller s", "place a;caller s at", "place a;caller s at a", "cry", ONE + "cry p", ONE + "cry p 1", ONE + "cry p 1 1",
            ONE + "cry p 1 1 1", "call", CRIER + "call p", CRIER + "call p 0", CRIER + "call p 0 at", CRIER + "call p 0 at 0"};
        for (String text : cut) {
            Check.hallFault(text, 2, text.length());
            Check.hallFault(text + " \n ", 2, text.length() + 3);
        }
    }

    @Says(of = 0, value = "a WORD of 9 letters and more where a NAME must stand)")
    static void wordsOfNineLetters() {
        Check.hallFault("place abcdefghi;", 2, 6);
        Check.hallFault("slate abcdefghi at a;", 2, 6);
        fault(TWO, "way abcdefghi a long 1;", 2, 4);
        fault(TWO, "way a abcdefghi long 1;", 2, 6);
        fault(ONE, "cry abcdefghi 1;", 2, 4);
        fault(CRIER, "call abcdefghi 0 at 0;", 2, 5);
        Check.hallFault("placeplace a;", 2, 0);
        // the last eight letters of it are a NAME, or a WORD, that would do
        fault("place bcdefghi;place z;", "way z abcdefghi long 1;", 2, 6);
        Check.hallFault("xxxxplace a;", 2, 0);
        Check.hallFault("xxxxxxxxplace a;", 2, 0);
        Check.morningsFault("xxxxxxxxany;", 2, 0);
        Check.morningsFault("say abcdefghi 0 0;", 2, 4);
    }

    @Says(of = 0, value = "a NAME that is no such one told ahead")
    static void namesOfOtherThings() {
        String all = "place a;slate s at a;caller p at a;cry p 1;";
        fault(all, "slate t at s;", 3, 11);
        fault(all, "slate t at p;", 3, 11);
        fault(all, "slate t at t;", 3, 11);
        fault(all, "caller t at s;", 3, 12);
        fault(all, "caller t at p;", 3, 12);
        fault(all, "cry a 1;", 3, 4);
        fault(all, "cry s 1;", 3, 4);
        fault(all, "call a 0 at 0;", 3, 5);
        fault(all, "call s 0 at 0;", 3, 5);
        fault(all, "call x 0 at 0;", 3, 5);
    }

    // ---- promise 10

    @Says(of = 0, value = {"A HALL that is taken is there in place of that ahead", "nothing is RECORDED", "there are no MORNINGS"})
    static void aTakenHallReplaces() {
        MurmurHall m = Check.market();
        m.record();
        Check.mornings(m, "any;");
        Check.done(m, "hall", Check.hall(m, "place z;caller y at z;"), 1);
        int[] told = {1, 0, 0, 1, 0, 4, 0, 0};
        for (int what = 0; what < 8; what++) Check.done(m, "told " + what, m.told(what), told[what]);
        Check.refused(m, "nothing is recorded", m.differs(), 6);
        Check.refused(m, "there are no mornings", m.live(0), 6);
        Check.refused(m, "none at all", m.mean(0, 1), 6);
        Check.refused(m, "the old ways are gone", m.way(0, 0), 1);
        Check.done(m, "a cry is the first", m.teach(0, 1, 0, 0), 0);
        m = Check.market();
        m.record();
        Check.mornings(m, "record;");
        m.mean(0, 1);
        Check.done(m, "behind a mean, too", Check.hall(m, "place z;"), 0);
        Check.done(m, "nothing is recorded", m.told(6), 0);
        Check.refused(m, "there are no mornings", m.live(0), 6);
    }

    @Says(of = 10, value = "The first n bytes of the tape (which is empty then) are the HALL")
    static void hallOfTheFirstBytes() {
        MurmurHall m = new MurmurHall();
        Check.feed(m, "place a;place b;place c;");
        Check.done(m, "sixteen of forty", m.hall(16), 0);
        Check.done(m, "its places", m.told(0), 2);
        Check.due("the tape is empty then", m.feed(0, 0, 0, 0, 0), 20);
        Check.done(m, "none of twenty", m.hall(0), 0);
        Check.done(m, "it has none", m.told(0), 0);
        Check.due("the tape is empty then, too", m.feed(0, 0, 0, 0, 0), 20);
        Check.feed(m, "");
        Check.refused(m, "0s are no blanks", m.hall(20), 9);
    }

    @Says(of = 10, value = "how many CALLERS")
    static void hallTellsCallers() {
        Check.due("none", Check.hall(new MurmurHall(), "place a;"), 0);
        Check.due("five", Check.hall(new MurmurHall(), BasicsBoundariesTest.FULL), 5);
    }

    @Says(of = 10, value = "1: n below 0, or more than the tape has, too")
    static void hallOfMoreThanTheTape() {
        MurmurHall m = Check.market();
        Check.refused(m, "of an empty tape", m.hall(1), 1);
        Check.feed(m, "place a;");
        for (int n : new int[] {LEAST, -1, 21, 900, 901, MOST}) Check.refused(m, "hall " + n, m.hall(n), 1);
        Check.done(m, "the old one stays", m.told(0), 4);
        Check.due("the tape stays", m.feed(0, 0, 0, 0, 0), 40);
        Check.done(m, "what it had ahead, too", m.hall(8), 0);
        Check.done(m, "its place", m.told(0), 1);
    }

    @Says(of = 10, value = "9: the old one stays")
    static void hallWithAFault() {
        MurmurHall m = Check.market();
        Check.mornings(m, "record;");
        m.record();
        Check.refused(m, "a fault at the end", Check.hall(m, "odds 3;place x;place y;way x y long 7;slate z at x;caller w at x;cry w 1;call w 0 at 0;%"), 9);
        int[] told = {4, 3, 2, 2, 2, 8, 1, 3};
        for (int what = 0; what < 8; what++) Check.done(m, "stays: told " + what, m.told(what), told[what]);
        Check.done(m, "its ways", m.far(0, 2), 3);
        Check.done(m, "its mornings", m.live(0), 1);
        Check.done(m, "its names", Check.mornings(m, "walk p a;when heard s 0=0;end;"), 2);
        Check.due("the tape is empty", m.feed(0, 0, 0, 0, 0), 20);
    }

    @Says(of = 10, value = "The first n bytes of the tape")
    static void textsCutWithinAToken() {
        MurmurHall m = new MurmurHall();
        Check.feed(m, "odds 123456;");
        Check.refused(m, "odds 1", m.hall(6), 9);
        Check.due("no end", m.fault(0), 2);
        Check.due("at the cut", m.fault(1), 6);
        Check.feed(m, "odds 9999999;");
        Check.refused(m, "odds 9999", m.hall(9), 9);
        Check.due("four digits", m.fault(0), 4);
        Check.feed(m, "place abcdefghi;");
        Check.refused(m, "place abcdefgh", m.hall(14), 9);
        Check.due("eight letters", m.fault(1), 14);
        Check.feed(m, "placed");
        Check.refused(m, "place", m.hall(5), 9);
        Check.due("a word", m.fault(1), 5);
    }

    // ---- promise 12

    @Says(of = 12, value = "NONE for others, and ahead of any.")
    static void faultAheadOfAny() {
        MurmurHall m = new MurmurHall();
        for (int what : new int[] {LEAST, -1, 0, 1, 2, MOST}) Check.due("ahead of any", m.fault(what), NONE);
        m.feed(0, 0, 0, 0, 0);
        Check.refused(m, "a hall with 1", m.hall(21), 1);
        Check.refused(m, "mornings with 1", m.mornings(21), 1);
        Check.due("still none", m.fault(0), NONE);
        Check.refused(m, "a hall with 9", m.hall(20), 9);
        for (int what : new int[] {LEAST, -1, 2, MOST}) Check.due("others", m.fault(what), NONE);
    }

    @Says(of = 12, value = "what 0: the FAULT (0 without one), 1: its place (NONE without)")
    static void faultWithoutOne() {
        MurmurHall m = new MurmurHall();
        Check.hall(m, "#");
        Check.due("a fault", m.fault(0), 1);
        Check.due("at the first byte", m.fault(1), 0);
        Check.hall(m, "place a;");
        Check.due("none", m.fault(0), 0);
        Check.due("no place", m.fault(1), NONE);
        Check.mornings(m, "end");
        Check.due("a fault", m.fault(0), 2);
        Check.due("at the first byte", m.fault(1), 0);
        Check.mornings(m, "any;");
        Check.due("none", m.fault(0), 0);
        Check.due("no place", m.fault(1), NONE);
    }

    @Says(of = 12, value = "Of the latest hall() or mornings() with STATUS 0 or 9")
    static void faultOfTheLatest() {
        MurmurHall m = new MurmurHall();
        Check.hall(m, "place");
        Check.refused(m, "with 1", m.hall(1), 1);
        Check.due("of the one ahead", m.fault(0), 2);
        Check.due("of the one ahead", m.fault(1), 5);
        Check.mornings(m, "any;#");
        Check.refused(m, "with 1", m.mornings(1), 1);
        Check.due("of mornings", m.fault(0), 1);
        Check.due("of mornings", m.fault(1), 4);
        Check.refused(m, "another call", m.slate(0), 1);
        m.mark();
        m.undo();
        Check.due("stays", m.fault(0), 1);
        Check.due("stays", m.fault(1), 4);
    }

    // ---- ==== 4. and promise 11

    @Says(of = 0, value = {"MORNINGS are a TEXT of at most 300 bytes", "MORNINGS: {STEP}."})
    static void morningsOfThreeHundredBytes() {
        takenMornings(" ".repeat(296) + "any;", 1);
        Check.morningsFault(" ".repeat(297) + "any", 2, 300);
        Check.morningsFault(" ".repeat(299) + "#", 1, 299);
    }

    @Says(of = 11, value = "(1: above 300, too; 9)")
    static void morningsOfMoreThanMayBe() {
        MurmurHall m = Check.market();
        Check.mornings(m, "hush;");
        Check.feed(m, "any;" + " ".repeat(316));
        for (int n : new int[] {LEAST, -1, 301, 320, 321, 900, MOST}) Check.refused(m, "mornings " + n, m.mornings(n), 1);
        Check.done(m, "the old ones stay", m.live(0), 1);
        Check.done(m, "they are: hush", m.lived(2), 1);
        Check.due("the tape stays", m.feed(0, 0, 0, 0, 0), 340);
        Check.done(m, "300", m.mornings(300), 1);
        Check.due("the tape is empty then", m.feed(0, 0, 0, 0, 0), 20);
        Check.refused(m, "more than the tape has", m.mornings(21), 1);
        Check.refused(m, "with 9", m.mornings(20), 9);
        Check.due("the tape is empty with 9", m.feed(0, 0, 0, 0, 0), 20);
    }

    @Says(of = 11, value = "Likewise the MORNINGS: how many STEPS")
    static void morningsOfNoneAndThirty() {
        MurmurHall m = takenMornings("", 0);
        Check.done(m, "none are lived", m.live(0), 0);
        takenMornings(" \n", 0);
        takenMornings("any;".repeat(30), 30);
        m = takenMornings("any;any;any;", 3);
        Check.done(m, "in place of those", Check.mornings(m, "record;"), 1);
        Check.done(m, "they are lived", m.live(0), 1);
        Check.refused(m, "with a fault", Check.mornings(m, "record;record;record;e"), 9);
        Check.done(m, "the old ones stay", m.live(0), 1);
    }

    @Says(of = 0, value = "(an end without a beginning; the text's end ahead of an end: 2)")
    static void endsAndBeginnings() {
        Check.morningsFault("end;", 2, 0);
        Check.morningsFault("any;end;", 2, 4);
        Check.morningsFault("loop 1;end;end;", 2, 11);
        Check.morningsFault("when calls=0;end;end;", 2, 17);
        Check.morningsFault("loop 1;", 2, 7);
        Check.morningsFault("loop 1;any;\n ", 2, 13);
        Check.morningsFault("loop 1;loop 1;end;", 2, 18);
        Check.morningsFault("when calls=0;", 2, 13);
        Check.morningsFault("loop 1;end", 2, 10);
        takenMornings("loop 1;end;when calls=0;end;", 2);
        MurmurHall m = Check.market();
        Check.refused(m, "three are open at the end", Check.mornings(m, "loop 1;loop 1;loop 1;"), 9);
        Check.refused(m, "but none is open in the next text", Check.mornings(m, "end;"), 9);
        Check.done(m, "nor here", Check.mornings(m, "loop 1;loop 1;loop 1;any;end;end;end;"), 4);
    }

    @Says(of = 0, value = "3 a NAME that is no such one (a CALLER behind say, walk, at, then a PLACE behind walk, at; a SLATE behind heard).")
    static void namesOfMornings() {
        for (String other : new String[] {"a", "s", "x"}) {
            Check.morningsFault("say " + other + " 0 0;", 3, 4);
            Check.morningsFault("walk " + other + " a;", 3, 5);
            Check.morningsFault("when at " + other + " a;end;", 3, 8);
        }
        for (String other : new String[] {"p", "s", "x"}) {
            Check.morningsFault("walk p " + other + ";", 3, 7);
            Check.morningsFault("when at p " + other + ";end;", 3, 10);
        }
        for (String other : new String[] {"p", "a", "x"}) Check.morningsFault("when heard " + other + " 0=0;end;", 3, 11);
        for (String word : WORDS.split(" ")) {
            Check.morningsFault("walk " + word + " a;", 2, 5);
            Check.morningsFault("walk p " + word + ";", 2, 7);
            Check.morningsFault("when heard " + word + " 0=0;end;", 2, 11);
        }
        takenMornings("walk p d;walk q a;when at q b;end;when heard t 0=0;end;", 4);
    }

    @Says(of = 0, value = {"say: a CALLER, which CRY (0 to 2), AT which BEAT (0 to 20)", "4 a NUMBER that can't be. 6"})
    static void numbersOfSay() {
        takenMornings("say p 0 0;say q 2 20;", 2);
        Check.morningsFault("say p 3 0;", 4, 6);
        Check.morningsFault("say p 0 21;", 4, 8);
        Check.morningsFault("say p 0;", 2, 7);
        Check.morningsFault("say p 0 0 0;", 2, 10);
        Check.morningsFault("say p 0 at 0;", 2, 8);
    }

    @Says(of = 0, value = "heard: the SUM on a SLATE in a BEAT (0 to 90) against 0 to 999")
    static void numbersOfHeard() {
        takenMornings("when heard s 0=0;end;when heard s 90=999;end;", 2);
        Check.morningsFault("when heard s 91=0;end;", 4, 13);
        Check.morningsFault("when heard s 90=1000;end;", 4, 16);
        Check.morningsFault("when heard s=0;end;", 2, 12);
    }

    @Says(of = 0, value = "calls: how many there are (0 to 8)")
    static void numbersOfCalls() {
        takenMornings("when calls=0;end;when calls=8;end;", 2);
        Check.morningsFault("when calls=9;end;", 4, 11);
    }

    @Says(of = 0, value = "loop n (1 to 99)")
    static void numbersOfLoop() {
        takenMornings("loop 1;end;loop 99;end;", 2);
        Check.morningsFault("loop 0;end;", 4, 5);
        Check.morningsFault("loop 100;end;", 4, 5);
        Check.morningsFault("loop;end;", 2, 4);
    }

    @Says(of = 0, value = "COMPARES: < or > or =")
    static void signsOfTests() {
        takenMornings("when calls<1;end;when calls>1;end;when calls=1;end;", 3);
        Check.morningsFault("when calls;1;end;", 2, 10);
        Check.morningsFault("when calls 1;end;", 2, 11);
        Check.morningsFault("when calls==1;end;", 2, 11);
        Check.morningsFault("when heard s 1;1;end;", 2, 14);
        Check.morningsFault("when calls!1;end;", 1, 10);
    }

    @Says(of = 0, value = "or hush ; or walk NAME NAME ; or record ; or any ; or when TEST ; {STEP} end ; or loop NUMBER ; {STEP} end ; or stop ;")
    static void stepsThatCantStandThere() {
        for (String word : "odds place way long loses slate at caller cry call heard calls x".split(" ")) Check.morningsFault(word, 2, 0);
        for (String word : "hush record any stop".split(" ")) {
            Check.morningsFault(word, 2, word.length());
            Check.morningsFault(word + " p;", 2, word.length() + 1);
        }
        for (String word : "odds place way long loses slate caller cry call say hush walk record any when loop end stop x 1 ;".split(" ")) {
            Check.morningsFault("when " + word, 2, 5);
        }
        Check.morningsFault("walk p;", 2, 6);
        Check.morningsFault("walk p a b;", 2, 9);
        Check.morningsFault(";", 2, 0);
        Check.morningsFault("7", 2, 0);
        for (String word : "say hush walk record any when heard calls loop end stop at long loses x".split(" ")) Check.hallFault(word, 2, 0);
    }

    @Says(of = 0, value = "6 a 31st STEP (at its WORD; end is none).")
    static void thirtyOneSteps() {
        takenMornings("hush;".repeat(30), 30);
        takenMornings("loop 1;end;".repeat(10) + "any;".repeat(20), 30);
        takenMornings("any;".repeat(28) + "loop 1;any;end;", 30);
        Check.morningsFault("any;".repeat(30) + "any", 6, 120);
        Check.morningsFault("any;".repeat(30) + "loop 0", 6, 120);
        Check.morningsFault("loop 1;end;".repeat(10) + "any;".repeat(20) + "stop", 6, 190);
        Check.morningsFault("any;".repeat(28) + "loop 1;any;any;end;", 6, 123);
        for (String word : "say hush walk record any when loop stop".split(" ")) Check.morningsFault("any;".repeat(30) + word, 6, 120);
    }

    @Says(of = 0, value = "7 a when, loop within three others (at its WORD).")
    static void fourWithinOneAnother() {
        takenMornings("loop 1;loop 1;loop 1;any;end;loop 1;any;end;end;end;loop 1;end;", 7);
        Check.morningsFault("loop 1;loop 1;loop 1;loop", 7, 21);
        Check.morningsFault("loop 1;loop 1;loop 1;when", 7, 21);
        Check.morningsFault("when calls=0;when calls=0;when calls=0;loop", 7, 39);
        Check.morningsFault("loop 1;loop 1;loop 1;end;loop 1;loop", 7, 32);
    }

    @Says(of = 10, value = "how many CALLERS (1: n below 0, or more than the tape has, too; 9: the old one stays).")
    static void namesOfAnOldHallAreGone() {
        MurmurHall m = Check.market();
        Check.done(m, "hall", Check.hall(m, "place x;"), 0);
        Check.refused(m, "an old caller", Check.mornings(m, "walk p x;"), 9);
        Check.due("no such one", m.fault(0), 3);
        Check.refused(m, "an old slate", Check.mornings(m, "when heard s 0=0;end;"), 9);
        Check.due("no such one", m.fault(0), 3);
    }
}
