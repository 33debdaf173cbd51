import java.util.Arrays;

/** A market hall whose slates write down, as one sum, all that is said anywhere; see README.md. */
public final class MurmurHall {
    public static final int NONE = -1;

    private static final int MOST_PLACES = 7;
    private static final int MOST_WAYS = 10;
    private static final int MOST_SLATES = 4;
    private static final int MOST_CALLERS = 5;
    private static final int MOST_CRIES = 3;
    private static final int MOST_NUMBERS = 3;
    private static final int MOST_CALLS = 8;
    private static final int MOST_LONG = 9;
    private static final int MOST_LOSS = 9;
    private static final int MOST_NUMBER = 99;
    private static final int MOST_SUM = 999;
    private static final int MOST_ODDS = 16;
    private static final int MOST_MARKS = 3;
    private static final int MOST_SEED = 9999;
    private static final int MOST_SEEDS = 20;
    private static final int MOST_ANSWER = 4;
    private static final int MOST_SLIPPED = 2;
    private static final int LAST_START = 20;
    private static final int STARTS = 21;
    private static final int LAST_BEAT = 90;
    private static final int BEATS = 91;
    private static final int CELLS = BEATS * MOST_SLATES;
    private static final int KINDS = MOST_CALLERS * MOST_CRIES;

    private static final int OK = 0;
    private static final int WRONG = 1;
    private static final int MISSING = 2;
    private static final int TOO_SHORT = 3;
    private static final int TOO_MANY = 4;
    private static final int NOTHING = 6;
    private static final int REFUSED = 7;
    private static final int UNLIKE = 8;
    private static final int FAULTY = 9;

    private int status;
    private long top;
    private long bottom = 1;
    private int marks;
    private boolean hasLived;
    private final int[] livedRow = new int[5];
    private final int[] sumsNow = new int[CELLS];
    private final Trays trays = new Trays();
    private final Tokens tokens = new Tokens();
    private final HallReader hallReader = new HallReader(tokens);
    private final MorningsReader morningsReader = new MorningsReader(tokens);
    private final Life life = new Life();
    private final Guess guess = new Guess();
    private final Moves moves = new Moves();
    private final Parting parting = new Parting();
    private final Hall hall = new Hall();
    private final Hall spare = new Hall();
    private final Hall firstMark = new Hall();
    private final Hall secondMark = new Hall();
    private final Hall thirdMark = new Hall();

    public MurmurHall() {
    }

    public int status() {
        return status;
    }

    public long top() {
        return top;
    }

    public long bottom() {
        return bottom;
    }

    // ---- TRAYS

    public boolean tray(int tray, int sort, int many) {
        if (!trays.isOne(tray) || sort < 0 || sort > 3 || many < 0 || many > Trays.WIDTH) {
            return deny(WRONG);
        }
        trays.lay(tray, sort, many);
        return grant();
    }

    public boolean write(int tray, int place, long v) {
        int problem = trays.problemAt(tray, place);
        if (problem != OK) {
            return deny(problem);
        }
        trays.put(tray, place, v);
        return grant();
    }

    public long read(int tray, int place) {
        int problem = trays.problemAt(tray, place);
        if (problem != OK) {
            return fail(problem);
        }
        status = OK;
        return trays.cells[tray * Trays.WIDTH + place];
    }

    public boolean pour(int from, int place, int to, int at, int many) {
        if (!trays.isOne(from) || !trays.isOne(to) || place < 0 || at < 0 || many < 0) {
            return deny(WRONG);
        }
        if (trays.isMissing(from) || trays.isMissing(to)) {
            return deny(MISSING);
        }
        if (trays.sorts[from] != trays.sorts[to]) {
            return deny(UNLIKE);
        }
        if (!trays.reaches(from, place, many) || !trays.reaches(to, at, many)) {
            return deny(TOO_SHORT);
        }
        trays.move(from, place, to, at, many);
        return grant();
    }

    // ---- texts

    public int feed(int a, int b, int c, int d, int e) {
        if (tokens.length + 20 > Tokens.TAPE) {
            return NONE;
        }
        tokens.append(a);
        tokens.append(b);
        tokens.append(c);
        tokens.append(d);
        tokens.append(e);
        return tokens.length;
    }

    public int hall(int n) {
        if (n < 0 || n > tokens.length) {
            return fail(WRONG);
        }
        tokens.begin(n);
        boolean taken = hallReader.readInto(spare);
        if (!taken) {
            return fail(FAULTY);
        }
        hall.takeFrom(spare);
        return pass(hall.callers);
    }

    public int mornings(int n) {
        if (n < 0 || n > tokens.length || n > Tokens.MORNINGS_TEXT) {
            return fail(WRONG);
        }
        tokens.begin(n);
        boolean taken = morningsReader.readInto(spare.steps, hall);
        if (!taken) {
            return fail(FAULTY);
        }
        hall.steps.takeFrom(spare.steps);
        return pass(hall.steps.many);
    }

    public int fault(int what) {
        if (what == 0) {
            return tokens.faultKind;
        }
        return what == 1 ? tokens.faultPlace : NONE;
    }

    public int told(int what) {
        switch (what) {
            case 0:
                return pass(hall.places);
            case 1:
                return pass(hall.ways);
            case 2:
                return pass(hall.slates);
            case 3:
                return pass(hall.callers);
            case 4:
                return pass(hall.calls);
            case 5:
                return pass(hall.odds);
            case 6:
                return pass(hall.kept ? 1 : 0);
            case 7:
                return pass(hall.allCries());
            default:
                return fail(WRONG);
        }
    }

    public int way(int way, int what) {
        if (!hall.hasWay(way)) {
            return fail(WRONG);
        }
        switch (what) {
            case 0:
                return pass(hall.ends[2 * way]);
            case 1:
                return pass(hall.ends[2 * way + 1]);
            case 2:
                return pass(hall.longs[way]);
            case 3:
                return pass(hall.losses[way]);
            default:
                return fail(WRONG);
        }
    }

    public int slate(int slate) {
        return hall.hasSlate(slate) ? pass(hall.hangs[slate]) : fail(WRONG);
    }

    public int caller(int caller, int what) {
        if (!hall.hasCaller(caller) || what < 0 || what > 1) {
            return fail(WRONG);
        }
        return pass(what == 0 ? hall.stands[caller] : hall.cries[caller]);
    }

    public int cry(int caller, int cry, int i) {
        if (!hall.hasCry(caller, cry) || i < 0) {
            return fail(WRONG);
        }
        int number = i < MOST_NUMBERS ? hall.numberOf(caller * MOST_CRIES + cry, i) : 0;
        return number > 0 ? pass(number) : fail(NOTHING);
    }

    public int call(int call, int what) {
        if (!hall.hasCall(call)) {
            return fail(WRONG);
        }
        switch (what) {
            case 0:
                return pass(hall.callerOf(call));
            case 1:
                return pass(hall.kindOf(call) % MOST_CRIES);
            case 2:
                return pass(hall.startOf(call));
            default:
                return fail(WRONG);
        }
    }

    // ---- what is done

    public int say(int caller, int cry, int beat) {
        if (beat < 0 || beat > LAST_START) {
            return fail(WRONG);
        }
        int problem = hall.addCall(caller, cry, beat);
        return problem == OK ? pass(hall.calls) : fail(problem);
    }

    public int hush(int call) {
        if (!hall.hasCall(call)) {
            return fail(WRONG);
        }
        hall.strike(call);
        return pass(hall.calls);
    }

    public int walk(int caller, int place) {
        if (!hall.hasCaller(caller) || !hall.hasPlace(place)) {
            return fail(WRONG);
        }
        int before = hall.stands[caller];
        if (before == place) {
            return fail(REFUSED);
        }
        hall.stands[caller] = place;
        return pass(before);
    }

    public int hang(int slate, int place) {
        if (!hall.hasSlate(slate) || !hall.hasPlace(place)) {
            return fail(WRONG);
        }
        int before = hall.hangs[slate];
        if (before == place) {
            return fail(REFUSED);
        }
        hall.hangs[slate] = place;
        return pass(before);
    }

    public boolean pave(int way, int size, int loss) {
        boolean sizeFits = size >= 1 && size <= MOST_LONG;
        boolean lossFits = loss >= 0 && loss <= MOST_LOSS;
        if (!hall.hasWay(way) || !sizeFits || !lossFits) {
            return deny(WRONG);
        }
        hall.longs[way] = size;
        hall.losses[way] = loss;
        hall.measure(NONE, hall.near);
        return grant();
    }

    public int teach(int caller, int a, int b, int c) {
        boolean gap = b == 0 && c != 0;
        if (!hall.hasCaller(caller) || !isNumber(a, 1) || !isNumber(b, 0) || !isNumber(c, 0) || gap) {
            return fail(WRONG);
        }
        if (hall.cries[caller] >= MOST_CRIES) {
            return fail(TOO_MANY);
        }
        return pass(hall.addCry(caller, a, b, c));
    }

    public boolean rule(int odds) {
        if (odds < 0 || odds > MOST_ODDS) {
            return deny(WRONG);
        }
        hall.odds = odds;
        return grant();
    }

    public int record() {
        hall.keepSums();
        return pass(hall.total());
    }

    public int scrawl(int slate, int beat, int sum) {
        if (!hall.hasSlate(slate) || !isBeat(beat) || sum < 0 || sum > MOST_SUM) {
            return fail(WRONG);
        }
        if (!hall.kept) {
            return fail(NOTHING);
        }
        int cell = Hall.cellOf(slate, beat);
        int before = hall.sums[cell];
        hall.sums[cell] = sum;
        return pass(before);
    }

    // ---- what is HEARD

    public int far(int place, int other) {
        if (!hall.hasPlace(place) || !hall.hasPlace(other)) {
            return fail(WRONG);
        }
        int distance = hall.distance(place, other);
        return distance < Hall.NO_WAY ? pass(Hall.beatsOf(distance)) : fail(NOTHING);
    }

    public int lost(int place, int other) {
        if (!hall.hasPlace(place) || !hall.hasPlace(other)) {
            return fail(WRONG);
        }
        int distance = hall.distance(place, other);
        return distance < Hall.NO_WAY ? pass(Hall.lossOf(distance)) : fail(NOTHING);
    }

    public int heard(int slate, int beat) {
        if (!hall.hasSlate(slate) || !isBeat(beat)) {
            return fail(WRONG);
        }
        return pass(hall.sumAt(slate, beat));
    }

    public int from(int slate, int beat) {
        if (!hall.hasSlate(slate) || !isBeat(beat)) {
            return fail(WRONG);
        }
        int set = 0;
        for (int call = 0; call < hall.calls; call++) {
            if (hall.amountAt(call, slate, beat) > 0) {
                set |= 1 << call;
            }
        }
        return pass(set);
    }

    public int first(int slate) {
        if (!hall.hasSlate(slate)) {
            return fail(WRONG);
        }
        hall.writeSums(sumsNow);
        for (int beat = 0; beat <= LAST_BEAT; beat++) {
            if (sumsNow[Hall.cellOf(slate, beat)] > 0) {
                return pass(beat);
            }
        }
        return fail(NOTHING);
    }

    public int last(int slate) {
        if (!hall.hasSlate(slate)) {
            return fail(WRONG);
        }
        hall.writeSums(sumsNow);
        for (int beat = LAST_BEAT; beat >= 0; beat--) {
            if (sumsNow[Hall.cellOf(slate, beat)] > 0) {
                return pass(beat);
            }
        }
        return fail(NOTHING);
    }

    public int loudest(int slate) {
        if (!hall.hasSlate(slate)) {
            return fail(WRONG);
        }
        hall.writeSums(sumsNow);
        int best = NONE;
        int most = 0;
        for (int beat = 0; beat <= LAST_BEAT; beat++) {
            int sum = sumsNow[Hall.cellOf(slate, beat)];
            if (sum > most) {
                most = sum;
                best = beat;
            }
        }
        return best == NONE ? fail(NOTHING) : pass(best);
    }

    public int all(int slate) {
        return hall.hasSlate(slate) ? pass(hall.totalOn(slate)) : fail(WRONG);
    }

    public int recorded(int slate, int beat) {
        if (!hall.hasSlate(slate) || !isBeat(beat)) {
            return fail(WRONG);
        }
        return hall.kept ? pass(hall.sums[Hall.cellOf(slate, beat)]) : fail(NOTHING);
    }

    public int differs() {
        if (!hall.kept) {
            return fail(NOTHING);
        }
        hall.writeSums(sumsNow);
        int many = 0;
        for (int cell = 0; cell < CELLS; cell++) {
            if (sumsNow[cell] != hall.sums[cell]) {
                many++;
            }
        }
        return pass(many);
    }

    public int copyHeard(int slate, int tray, int beat, int n) {
        boolean known = hall.hasSlate(slate) && trays.isOne(tray) && isBeat(beat);
        if (!known || n < 0 || n > Trays.WIDTH || beat + n > BEATS) {
            return fail(WRONG);
        }
        if (trays.isMissing(tray)) {
            return fail(MISSING);
        }
        if (!trays.reaches(tray, 0, n)) {
            return fail(TOO_SHORT);
        }
        hall.writeSums(sumsNow);
        int together = 0;
        for (int i = 0; i < n; i++) {
            int sum = sumsNow[Hall.cellOf(slate, beat + i)];
            trays.put(tray, i, sum);
            together += sum;
        }
        return pass(together);
    }

    // ---- who said what

    public int answers(int n) {
        int problem = problemOfGuess(n, MOST_ANSWER);
        if (problem != OK) {
            return fail(problem);
        }
        guess.findAnswers(hall, n, NONE);
        return pass(guess.many);
    }

    public int answerAt(int n, int k) {
        int problem = k < 0 ? WRONG : problemOfGuess(n, MOST_ANSWER);
        if (problem != OK) {
            return fail(problem);
        }
        guess.findAnswers(hall, n, NONE);
        return k < guess.bestSize ? pass(guess.best[k]) : fail(NOTHING);
    }

    public int with(int n, int caller, int cry, int beat) {
        boolean known = hall.hasCry(caller, cry) && beat >= 0 && beat <= LAST_START;
        int problem = known ? problemOfGuess(n, MOST_ANSWER) : WRONG;
        if (problem != OK) {
            return fail(problem);
        }
        guess.findAnswers(hall, n, Hall.callNumber(caller, cry, beat));
        return pass(guess.manyWith);
    }

    public int fewest() {
        if (!hall.kept) {
            return fail(NOTHING);
        }
        guess.findAnswers(hall, MOST_ANSWER, NONE);
        return guess.many > 0 ? pass(guess.leastSize) : fail(NOTHING);
    }

    public int slips(int n) {
        int problem = problemOfGuess(n, MOST_SLIPPED);
        if (problem != OK) {
            return fail(problem);
        }
        guess.findSlips(hall, n);
        return pass(guess.many);
    }

    public int slipsAt(int n, int k) {
        int problem = k < 0 ? WRONG : problemOfGuess(n, MOST_SLIPPED);
        if (problem != OK) {
            return fail(problem);
        }
        guess.findSlips(hall, n);
        return k < guess.bestSize ? pass(guess.best[k]) : fail(NOTHING);
    }

    // ---- what was changed, what can't be parted

    public int moved() {
        if (!hall.kept) {
            return fail(NOTHING);
        }
        moves.find(hall, NONE);
        return pass(moves.many);
    }

    public int movedAt(int k, int what) {
        if (k < 0 || what < 0 || what > 2) {
            return fail(WRONG);
        }
        if (!hall.kept) {
            return fail(NOTHING);
        }
        moves.find(hall, k);
        if (k >= moves.many) {
            return fail(NOTHING);
        }
        if (what == 0) {
            return pass(moves.sought);
        }
        return pass(what == 1 ? moves.soughtLong : moves.soughtLoss);
    }

    public int alike(int caller, int cry, int other, int its) {
        boolean same = caller == other && cry == its;
        if (!hall.hasCry(caller, cry) || !hall.hasCry(other, its) || same) {
            return fail(WRONG);
        }
        parting.listen(hall);
        int later = parting.laterBy(caller * MOST_CRIES + cry, other * MOST_CRIES + its, hall.slatePlaces());
        if (later == Parting.APART) {
            return fail(NOTHING);
        }
        return pass(later == Parting.ANY_BEATS ? 0 : later);
    }

    public int parts(int places) {
        if (places < 0 || places >= 1 << hall.places) {
            return fail(WRONG);
        }
        parting.listen(hall);
        return pass(parting.partsAll(hall, places) ? 1 : 0);
    }

    public int hanging() {
        parting.listen(hall);
        int set = parting.leastSet(hall);
        return set == NONE ? fail(NOTHING) : pass(Integer.bitCount(set));
    }

    public int hangingSet() {
        parting.listen(hall);
        int set = parting.leastSet(hall);
        return set == NONE ? fail(NOTHING) : pass(set);
    }

    // ---- odds

    public boolean chance(int slate, int beat, int k) {
        if (!hall.hasSlate(slate) || !isBeat(beat) || k < 0 || k > MOST_SUM) {
            return deny(WRONG);
        }
        tell(hall.weightOfAtLeast(slate, beat, k), Hall.sixteens(hall.calls));
        return grant();
    }

    public boolean quiet(int slate) {
        if (!hall.hasSlate(slate)) {
            return deny(WRONG);
        }
        long above = 1;
        int loud = 0;
        for (int call = 0; call < hall.calls; call++) {
            if (hall.isLoudOn(call, slate)) {
                above *= hall.odds;
                loud++;
            }
        }
        tell(above, Hall.sixteens(loud));
        return grant();
    }

    // ---- MORNINGS

    public int live(int seed) {
        if (seed < 0 || seed > MOST_SEED) {
            return fail(WRONG);
        }
        if (!hall.steps.there) {
            return fail(NOTHING);
        }
        life.run(hall, seed);
        hasLived = true;
        livedRow[0] = life.missed;
        livedRow[1] = life.said;
        livedRow[2] = life.struck;
        livedRow[3] = life.walked;
        livedRow[4] = life.left;
        return pass(life.done);
    }

    public int lived(int what) {
        if (what < 0 || what >= livedRow.length) {
            return fail(WRONG);
        }
        return hasLived ? pass(livedRow[what]) : fail(NOTHING);
    }

    public boolean mean(int seed, int many) {
        boolean seedFits = seed >= 0 && seed <= MOST_SEED;
        boolean manyFits = many >= 1 && many <= MOST_SEEDS;
        if (!seedFits || !manyFits || seed + many - 1 > MOST_SEED) {
            return deny(WRONG);
        }
        if (!hall.steps.there) {
            return deny(NOTHING);
        }
        long together = 0;
        for (int i = 0; i < many; i++) {
            spare.takeFrom(hall);
            life.run(spare, seed + i);
            together += spare.total();
        }
        tell(together, many);
        return grant();
    }

    // ---- MARKS

    public int mark() {
        if (marks >= MOST_MARKS) {
            return fail(TOO_MANY);
        }
        markAt(marks).takeFrom(hall);
        marks++;
        return pass(marks);
    }

    public int undo() {
        if (marks <= 0) {
            return fail(NOTHING);
        }
        marks--;
        hall.takeFrom(markAt(marks));
        return pass(marks);
    }

    // ---- what the calls have in common

    private int pass(int value) {
        status = OK;
        return value;
    }

    private int fail(int problem) {
        status = problem;
        return NONE;
    }

    private boolean grant() {
        status = OK;
        return true;
    }

    private boolean deny(int problem) {
        status = problem;
        return false;
    }

    private int problemOfGuess(int n, int most) {
        if (n < 0 || n > most) {
            return WRONG;
        }
        return hall.kept ? OK : NOTHING;
    }

    private Hall markAt(int mark) {
        if (mark == 0) {
            return firstMark;
        }
        return mark == 1 ? secondMark : thirdMark;
    }

    private void tell(long above, long below) {
        long divisor = commonDivisor(above, below);
        if (divisor > 0) {
            top = above / divisor;
            bottom = below / divisor;
        }
    }

    private static long commonDivisor(long a, long b) {
        long larger = a;
        long smaller = b;
        for (int turn = 0; turn < 200 && smaller > 0; turn++) {
            long rest = larger % smaller;
            larger = smaller;
            smaller = rest;
        }
        return larger;
    }

    private static boolean isBeat(int beat) {
        return beat >= 0 && beat <= LAST_BEAT;
    }

    private static boolean isNumber(int number, int least) {
        return number >= least && number <= MOST_NUMBER;
    }

    /** The four TRAYS, in one row of cells so that laying one anew makes no object. */
    private static final class Trays {
        static final int WIDTH = 60;
        static final int MANY = 4;
        final int[] sorts = {NONE, NONE, NONE, NONE};
        final int[] sizes = new int[MANY];
        final long[] cells = new long[MANY * WIDTH];

        boolean isOne(int tray) {
            return tray >= 0 && tray < MANY;
        }

        boolean isMissing(int tray) {
            return sorts[tray] == NONE;
        }

        int problemAt(int tray, int place) {
            if (!isOne(tray)) {
                return WRONG;
            }
            if (isMissing(tray)) {
                return MISSING;
            }
            return place >= 0 && place < sizes[tray] ? OK : TOO_SHORT;
        }

        boolean reaches(int tray, int place, int many) {
            // as long: place and many may each be as great as an int can be
            return (long) place + many <= sizes[tray];
        }

        void lay(int tray, int sort, int many) {
            sorts[tray] = sort;
            sizes[tray] = many;
            for (int place = 0; place < WIDTH; place++) {
                cells[tray * WIDTH + place] = 0;
            }
        }

        void put(int tray, int place, long v) {
            cells[tray * WIDTH + place] = cut(sorts[tray], v);
        }

        void move(int from, int place, int to, int at, int many) {
            System.arraycopy(cells, from * WIDTH + place, cells, to * WIDTH + at, many);
        }

        private static long cut(int sort, long v) {
            switch (sort) {
                case 0:
                    return (byte) v;
                case 1:
                    return (short) v;
                case 2:
                    return (int) v;
                default:
                    return v;
            }
        }
    }

    /** The HALL with all that became of it, what is RECORDED, and the MORNINGS: all that a MARK keeps. */
    private static final class Hall {
        // a distance is BEATS times this and LOSS together, so that of ways with the fewest BEATS the least LOSS wins
        static final int BEAT_WEIGHT = 1000;
        static final int NO_WAY = 10000000;
        static final int SLATE_NAMES = MOST_PLACES;
        static final int CALLER_NAMES = MOST_PLACES + MOST_SLATES;

        int odds = 4;
        int places;
        int ways;
        int slates;
        int callers;
        int calls;
        boolean kept;
        final long[] names = new long[MOST_PLACES + MOST_SLATES + MOST_CALLERS];
        final int[] ends = new int[2 * MOST_WAYS];
        final int[] longs = new int[MOST_WAYS];
        final int[] losses = new int[MOST_WAYS];
        final int[] hangs = new int[MOST_SLATES];
        final int[] stands = new int[MOST_CALLERS];
        final int[] cries = new int[MOST_CALLERS];
        final int[] numbers = new int[KINDS * MOST_NUMBERS];
        final int[] spoken = new int[MOST_CALLS];
        final int[] sums = new int[CELLS];
        final int[] near = new int[MOST_PLACES * MOST_PLACES];
        final Steps steps = new Steps();

        void clear() {
            odds = 4;
            places = 0;
            ways = 0;
            slates = 0;
            callers = 0;
            calls = 0;
            kept = false;
            steps.clear();
        }

        void takeFrom(Hall other) {
            odds = other.odds;
            places = other.places;
            ways = other.ways;
            slates = other.slates;
            callers = other.callers;
            calls = other.calls;
            kept = other.kept;
            System.arraycopy(other.names, 0, names, 0, names.length);
            System.arraycopy(other.ends, 0, ends, 0, ends.length);
            System.arraycopy(other.longs, 0, longs, 0, longs.length);
            System.arraycopy(other.losses, 0, losses, 0, losses.length);
            System.arraycopy(other.hangs, 0, hangs, 0, hangs.length);
            System.arraycopy(other.stands, 0, stands, 0, stands.length);
            System.arraycopy(other.cries, 0, cries, 0, cries.length);
            System.arraycopy(other.numbers, 0, numbers, 0, numbers.length);
            System.arraycopy(other.spoken, 0, spoken, 0, spoken.length);
            System.arraycopy(other.sums, 0, sums, 0, sums.length);
            System.arraycopy(other.near, 0, near, 0, near.length);
            steps.takeFrom(other.steps);
        }

        boolean hasPlace(int place) {
            return place >= 0 && place < places;
        }

        boolean hasWay(int way) {
            return way >= 0 && way < ways;
        }

        boolean hasSlate(int slate) {
            return slate >= 0 && slate < slates;
        }

        boolean hasCaller(int caller) {
            return caller >= 0 && caller < callers;
        }

        boolean hasCry(int caller, int cry) {
            return caller >= 0 && caller < callers && cry >= 0 && cry < cries[caller];
        }

        boolean hasCall(int call) {
            return call >= 0 && call < calls;
        }

        int allCries() {
            int many = 0;
            for (int caller = 0; caller < callers; caller++) {
                many += cries[caller];
            }
            return many;
        }

        // ---- names

        int placeNamed(long name) {
            return indexOf(name, 0, places);
        }

        int slateNamed(long name) {
            return indexOf(name, SLATE_NAMES, slates);
        }

        int callerNamed(long name) {
            return indexOf(name, CALLER_NAMES, callers);
        }

        boolean isTaken(long name) {
            return placeNamed(name) != NONE || slateNamed(name) != NONE || callerNamed(name) != NONE;
        }

        private int indexOf(long name, int begin, int many) {
            for (int i = 0; i < many; i++) {
                if (names[begin + i] == name) {
                    return i;
                }
            }
            return NONE;
        }

        // ---- what a text tells; the readers look at the limits first

        void addPlace(long name) {
            names[places] = name;
            places++;
        }

        void addWay(int one, int other, int size, int loss) {
            ends[2 * ways] = one;
            ends[2 * ways + 1] = other;
            longs[ways] = size;
            losses[ways] = loss;
            ways++;
        }

        void addSlate(long name, int place) {
            names[SLATE_NAMES + slates] = name;
            hangs[slates] = place;
            slates++;
        }

        void addCaller(long name, int place) {
            names[CALLER_NAMES + callers] = name;
            stands[callers] = place;
            cries[callers] = 0;
            callers++;
        }

        int addCry(int caller, int a, int b, int c) {
            int cry = cries[caller];
            int begin = (caller * MOST_CRIES + cry) * MOST_NUMBERS;
            numbers[begin] = a;
            numbers[begin + 1] = b;
            numbers[begin + 2] = c;
            cries[caller] = cry + 1;
            return cry;
        }

        // ---- calls

        static int callNumber(int caller, int cry, int beat) {
            return (caller * MOST_CRIES + cry) * STARTS + beat;
        }

        /** Answers the STATUS; the BEAT is looked at by those who ask. */
        int addCall(int caller, int cry, int beat) {
            if (!hasCry(caller, cry)) {
                return WRONG;
            }
            if (calls >= MOST_CALLS) {
                return TOO_MANY;
            }
            int number = callNumber(caller, cry, beat);
            if (isSpoken(number)) {
                return REFUSED;
            }
            spoken[calls] = number;
            calls++;
            return OK;
        }

        boolean isSpoken(int number) {
            for (int call = 0; call < calls; call++) {
                if (spoken[call] == number) {
                    return true;
                }
            }
            return false;
        }

        void strike(int call) {
            for (int i = call; i + 1 < calls; i++) {
                spoken[i] = spoken[i + 1];
            }
            calls--;
        }

        int kindOf(int call) {
            return spoken[call] / STARTS;
        }

        int callerOf(int call) {
            return kindOf(call) / MOST_CRIES;
        }

        int startOf(int call) {
            return spoken[call] % STARTS;
        }

        // ---- distances

        static int beatsOf(int distance) {
            return distance / BEAT_WEIGHT;
        }

        static int lossOf(int distance) {
            return distance % BEAT_WEIGHT;
        }

        int distance(int place, int other) {
            return near[place * MOST_PLACES + other];
        }

        int distanceToSlate(int caller, int slate) {
            return distance(stands[caller], hangs[slate]);
        }

        void measure(int without, int[] into) {
            Arrays.fill(into, NO_WAY);
            for (int place = 0; place < places; place++) {
                into[place * MOST_PLACES + place] = 0;
            }
            for (int way = 0; way < ways; way++) {
                if (way != without) {
                    int weight = longs[way] * BEAT_WEIGHT + losses[way];
                    shorten(into, ends[2 * way], ends[2 * way + 1], weight);
                    shorten(into, ends[2 * way + 1], ends[2 * way], weight);
                }
            }
            for (int middle = 0; middle < places; middle++) {
                measureBy(middle, into);
            }
        }

        private void measureBy(int middle, int[] into) {
            for (int one = 0; one < places; one++) {
                int begin = into[one * MOST_PLACES + middle];
                for (int other = 0; begin < NO_WAY && other < places; other++) {
                    shorten(into, one, other, begin + into[middle * MOST_PLACES + other]);
                }
            }
        }

        private static void shorten(int[] into, int one, int other, int weight) {
            int at = one * MOST_PLACES + other;
            if (weight < into[at]) {
                into[at] = weight;
            }
        }

        // ---- what is heard

        // BEAT first, so that cells in order are BEATS in order; no CALL is HEARD behind BEAT 76 (AT 20, its third
        // number, six WAYS of 9), so what is HEARD always has a cell
        static int cellOf(int slate, int beat) {
            return beat * MOST_SLATES + slate;
        }

        int numberOf(int kind, int i) {
            return numbers[kind * MOST_NUMBERS + i];
        }

        int amount(int kind, int i, int loss) {
            return Math.max(0, numberOf(kind, i) - loss);
        }

        int amountAt(int call, int slate, int beat) {
            int distance = distanceToSlate(callerOf(call), slate);
            int i = beat - startOf(call) - beatsOf(distance);
            if (distance >= NO_WAY || i < 0 || i >= MOST_NUMBERS) {
                return 0;
            }
            return amount(kindOf(call), i, lossOf(distance));
        }

        int sumAt(int slate, int beat) {
            int sum = 0;
            for (int call = 0; call < calls; call++) {
                sum += amountAt(call, slate, beat);
            }
            return sum;
        }

        private int allOfCall(int call, int slate) {
            int distance = distanceToSlate(callerOf(call), slate);
            if (distance >= NO_WAY) {
                return 0;
            }
            int together = 0;
            for (int i = 0; i < MOST_NUMBERS; i++) {
                together += amount(kindOf(call), i, lossOf(distance));
            }
            return together;
        }

        boolean isLoudOn(int call, int slate) {
            return allOfCall(call, slate) > 0;
        }

        int totalOn(int slate) {
            int together = 0;
            for (int call = 0; call < calls; call++) {
                together += allOfCall(call, slate);
            }
            return together;
        }

        int total() {
            int together = 0;
            for (int slate = 0; slate < slates; slate++) {
                together += totalOn(slate);
            }
            return together;
        }

        /** All SUMS, CALL by CALL: most cells are empty, so to ask each of them would take long. */
        void writeSums(int[] into) {
            Arrays.fill(into, 0);
            for (int call = 0; call < calls; call++) {
                for (int slate = 0; slate < slates; slate++) {
                    int distance = distanceToSlate(callerOf(call), slate);
                    int begin = startOf(call) + beatsOf(distance);
                    for (int i = 0; i < MOST_NUMBERS && distance < NO_WAY; i++) {
                        into[cellOf(slate, begin + i)] += amount(kindOf(call), i, lossOf(distance));
                    }
                }
            }
        }

        void keepSums() {
            writeSums(sums);
            kept = true;
        }

        int totalKept() {
            int together = 0;
            for (int cell = 0; cell < CELLS; cell++) {
                together += sums[cell];
            }
            return together;
        }

        int slatePlaces() {
            int set = 0;
            for (int slate = 0; slate < slates; slate++) {
                set |= 1 << hangs[slate];
            }
            return set;
        }

        // ---- odds

        static long sixteens(int many) {
            return 1L << (4 * many);
        }

        /** In how many of the cases (16 for each CALL, multiplied) the SUM is k or more. */
        long weightOfAtLeast(int slate, int beat, int k) {
            long together = 0;
            for (int set = 0; set < 1 << calls; set++) {
                int sum = 0;
                long weight = 1;
                for (int call = 0; call < calls; call++) {
                    boolean isLost = (set >> call & 1) == 0;
                    sum += isLost ? 0 : amountAt(call, slate, beat);
                    weight *= isLost ? odds : MOST_ODDS - odds;
                }
                together += sum >= k ? weight : 0;
            }
            return together;
        }
    }

    /** The MORNINGS as rows: STEPS and the ends of those that hold others, each linked with its other one. */
    private static final class Steps {
        static final int MOST = 30;
        static final int MOST_DEPTH = 3;
        // each STEP may bring an end of its own
        static final int MOST_ROWS = 2 * MOST;
        boolean there;
        int many;
        int rows;
        final int[] word = new int[MOST_ROWS];
        final int[] test = new int[MOST_ROWS];
        final int[] who = new int[MOST_ROWS];
        final int[] where = new int[MOST_ROWS];
        final int[] sign = new int[MOST_ROWS];
        final int[] number = new int[MOST_ROWS];
        final int[] link = new int[MOST_ROWS];

        void clear() {
            there = false;
            many = 0;
            rows = 0;
        }

        void takeFrom(Steps other) {
            there = other.there;
            many = other.many;
            rows = other.rows;
            System.arraycopy(other.word, 0, word, 0, word.length);
            System.arraycopy(other.test, 0, test, 0, test.length);
            System.arraycopy(other.who, 0, who, 0, who.length);
            System.arraycopy(other.where, 0, where, 0, where.length);
            System.arraycopy(other.sign, 0, sign, 0, sign.length);
            System.arraycopy(other.number, 0, number, 0, number.length);
            System.arraycopy(other.link, 0, link, 0, link.length);
        }
    }

    /** The tape, read TOKEN by TOKEN; the first TOKEN that is refused is the FAULT. */
    private static final class Tokens {
        static final int TAPE = 900;
        static final int MORNINGS_TEXT = 300;
        static final int MOST_LETTERS = 8;
        static final int MOST_DIGITS = 4;

        static final int FINISH = 0;
        static final int LETTERS = 1;
        static final int DIGITS = 2;
        static final int SIGN = 3;
        static final int UNKNOWN = 4;

        // the bytes of each word as one number, in the order of the words' numbers below
        static final long[] WORDS = {
            // odds, place, way, long, loses
            0x6f646473L, 0x706c616365L, 0x776179L, 0x6c6f6e67L, 0x6c6f736573L,
            // slate, at, caller, cry, call
            0x736c617465L, 0x6174L, 0x63616c6c6572L, 0x637279L, 0x63616c6cL,
            // say, hush, walk, record, any
            0x736179L, 0x68757368L, 0x77616c6bL, 0x7265636f7264L, 0x616e79L,
            // when, heard, calls, loop, end, stop
            0x7768656eL, 0x6865617264L, 0x63616c6c73L, 0x6c6f6f70L, 0x656e64L, 0x73746f70L,
        };
        static final int ODDS = 0;
        static final int PLACE = 1;
        static final int WAY = 2;
        static final int LONG = 3;
        static final int LOSES = 4;
        static final int SLATE = 5;
        static final int AT = 6;
        static final int CALLER = 7;
        static final int CRY = 8;
        static final int CALL = 9;
        static final int SAY = 10;
        static final int HUSH = 11;
        static final int WALK = 12;
        static final int RECORD = 13;
        static final int ANY = 14;
        static final int WHEN = 15;
        static final int HEARD = 16;
        static final int CALLS = 17;
        static final int LOOP = 18;
        static final int END = 19;
        static final int STOP = 20;

        final byte[] tape = new byte[TAPE];
        int length;
        int finish;
        int next;
        int kind;
        int start;
        /** Of LETTERS the word's number or NONE, of DIGITS the value, of a SIGN its byte. */
        int value;
        long name;
        int faultKind = NONE;
        int faultPlace = NONE;

        void append(int four) {
            for (int shift = 24; shift >= 0 && length < TAPE; shift -= 8) {
                tape[length] = (byte) (four >> shift);
                length++;
            }
        }

        /** From here on the text is read; its bytes stay readable, but the tape is empty for those who feed it. */
        void begin(int bytes) {
            length = 0;
            finish = bytes;
            next = 0;
            faultKind = 0;
            faultPlace = NONE;
        }

        /** Answers false, for those who hand it on; what no TOKEN begins with is FAULT 1 whatever was due there. */
        boolean refuse(int fault) {
            faultKind = kind == UNKNOWN ? 1 : fault;
            faultPlace = start;
            return false;
        }

        void advance() {
            while (next < finish && (tape[next] == 10 || tape[next] == 32)) {
                next++;
            }
            start = next;
            if (next >= finish) {
                kind = FINISH;
                return;
            }
            value = tape[next];
            kind = kindOf(value);
            next++;
            if (kind == LETTERS) {
                readLetters();
                value = wordNumber();
            } else if (kind == DIGITS) {
                readDigits();
            }
        }

        private static int kindOf(int sign) {
            if (sign >= 'a' && sign <= 'z') {
                return LETTERS;
            }
            if (sign >= '0' && sign <= '9') {
                return DIGITS;
            }
            return sign == ';' || sign == '<' || sign == '>' || sign == '=' ? SIGN : UNKNOWN;
        }

        private void readLetters() {
            // only of MOST_LETTERS and fewer is the name used, and those do not run over
            name = tape[start];
            while (next < finish && tape[next] >= 'a' && tape[next] <= 'z') {
                name = name << 8 | tape[next];
                next++;
            }
        }

        private int wordNumber() {
            for (int word = 0; word < WORDS.length && next - start <= MOST_LETTERS; word++) {
                if (WORDS[word] == name) {
                    return word;
                }
            }
            return NONE;
        }

        private void readDigits() {
            value = tape[start] - '0';
            while (next < finish && tape[next] >= '0' && tape[next] <= '9') {
                if (next - start < MOST_DIGITS) {
                    value = value * 10 + (tape[next] - '0');
                }
                next++;
            }
            if (next - start > MOST_DIGITS) {
                kind = UNKNOWN;
            }
        }

        /** The number of the word that stands here, or NONE. */
        int word() {
            return kind == LETTERS ? value : NONE;
        }

        boolean wordNext(int word) {
            advance();
            return word() == word || refuse(2);
        }

        boolean nameNext() {
            advance();
            boolean isName = kind == LETTERS && value == NONE && next - start <= MOST_LETTERS;
            return isName || refuse(2);
        }

        boolean numberNext(int least, int most) {
            advance();
            return numberHere(least, most);
        }

        boolean numberHere(int least, int most) {
            if (kind != DIGITS) {
                return refuse(2);
            }
            return value >= least && value <= most || refuse(4);
        }

        boolean closeNext() {
            advance();
            return closeHere();
        }

        boolean closeHere() {
            return kind == SIGN && value == ';' || refuse(2);
        }

        boolean compareNext() {
            advance();
            return kind == SIGN && value != ';' || refuse(2);
        }
    }

    /** Reads a HALL from the tape into one that is not in use, so that the old one stays with a FAULT. */
    private static final class HallReader {
        private final Tokens tokens;
        private boolean oddsTold;

        HallReader(Tokens tokens) {
            this.tokens = tokens;
        }

        boolean readInto(Hall hall) {
            hall.clear();
            oddsTold = false;
            for (int part = 0; part <= Tokens.TAPE; part++) {
                tokens.advance();
                if (tokens.kind == Tokens.FINISH) {
                    hall.measure(NONE, hall.near);
                    return true;
                }
                if (!readPart(hall)) {
                    return false;
                }
            }
            return tokens.refuse(2);
        }

        private boolean readPart(Hall hall) {
            switch (tokens.word()) {
                case Tokens.ODDS:
                    return readOdds(hall);
                case Tokens.PLACE:
                    return readPlace(hall);
                case Tokens.WAY:
                    return readWay(hall);
                case Tokens.SLATE:
                    return readSlate(hall);
                case Tokens.CALLER:
                    return readCaller(hall);
                case Tokens.CRY:
                    return readCry(hall);
                case Tokens.CALL:
                    return readCall(hall);
                default:
                    return tokens.refuse(2);
            }
        }

        private boolean readOdds(Hall hall) {
            if (oddsTold) {
                return tokens.refuse(5);
            }
            if (!tokens.numberNext(0, MOST_ODDS)) {
                return false;
            }
            oddsTold = true;
            hall.odds = tokens.value;
            return tokens.closeNext();
        }

        private boolean readPlace(Hall hall) {
            if (hall.places >= MOST_PLACES) {
                return tokens.refuse(6);
            }
            if (!newNameNext(hall)) {
                return false;
            }
            hall.addPlace(tokens.name);
            return tokens.closeNext();
        }

        private boolean readWay(Hall hall) {
            if (hall.ways >= MOST_WAYS) {
                return tokens.refuse(6);
            }
            int one = placeNext(hall);
            int other = one == NONE ? NONE : placeNext(hall);
            if (other == NONE) {
                return false;
            }
            if (one == other) {
                return tokens.refuse(5);
            }
            if (!tokens.wordNext(Tokens.LONG) || !tokens.numberNext(1, MOST_LONG)) {
                return false;
            }
            int size = tokens.value;
            int loss = 0;
            tokens.advance();
            if (tokens.word() == Tokens.LOSES) {
                if (!tokens.numberNext(0, MOST_LOSS)) {
                    return false;
                }
                loss = tokens.value;
                tokens.advance();
            }
            hall.addWay(one, other, size, loss);
            return tokens.closeHere();
        }

        private boolean readSlate(Hall hall) {
            if (hall.slates >= MOST_SLATES) {
                return tokens.refuse(6);
            }
            if (!newNameNext(hall)) {
                return false;
            }
            long name = tokens.name;
            int place = tokens.wordNext(Tokens.AT) ? placeNext(hall) : NONE;
            if (place == NONE) {
                return false;
            }
            hall.addSlate(name, place);
            return tokens.closeNext();
        }

        private boolean readCaller(Hall hall) {
            if (hall.callers >= MOST_CALLERS) {
                return tokens.refuse(6);
            }
            if (!newNameNext(hall)) {
                return false;
            }
            long name = tokens.name;
            int place = tokens.wordNext(Tokens.AT) ? placeNext(hall) : NONE;
            if (place == NONE) {
                return false;
            }
            hall.addCaller(name, place);
            return tokens.closeNext();
        }

        private boolean readCry(Hall hall) {
            int caller = callerNext(hall);
            if (caller == NONE) {
                return false;
            }
            if (hall.cries[caller] >= MOST_CRIES) {
                return tokens.refuse(6);
            }
            if (!tokens.numberNext(1, MOST_NUMBER)) {
                return false;
            }
            int a = tokens.value;
            int b = perhapsNumberNext();
            int c = b > 0 ? perhapsNumberNext() : 0;
            if (b == NONE || c == NONE) {
                return false;
            }
            hall.addCry(caller, a, b, c);
            // where a number was looked for in vain, the TOKEN that stands there is still to be read
            return c > 0 ? tokens.closeNext() : tokens.closeHere();
        }

        /** A number of a CRY, 0 if none stands there, NONE with a FAULT. */
        private int perhapsNumberNext() {
            tokens.advance();
            if (tokens.kind != Tokens.DIGITS) {
                return 0;
            }
            return tokens.numberHere(1, MOST_NUMBER) ? tokens.value : NONE;
        }

        private boolean readCall(Hall hall) {
            if (hall.calls >= MOST_CALLS) {
                return tokens.refuse(6);
            }
            int caller = callerNext(hall);
            if (caller == NONE || !tokens.numberNext(0, hall.cries[caller] - 1)) {
                return false;
            }
            int cry = tokens.value;
            if (!tokens.wordNext(Tokens.AT) || !tokens.numberNext(0, LAST_START)) {
                return false;
            }
            if (hall.addCall(caller, cry, tokens.value) != OK) {
                return tokens.refuse(5);
            }
            return tokens.closeNext();
        }

        private boolean newNameNext(Hall hall) {
            if (!tokens.nameNext()) {
                return false;
            }
            return !hall.isTaken(tokens.name) || tokens.refuse(3);
        }

        private int placeNext(Hall hall) {
            if (!tokens.nameNext()) {
                return NONE;
            }
            int place = hall.placeNamed(tokens.name);
            if (place == NONE) {
                tokens.refuse(3);
            }
            return place;
        }

        private int callerNext(Hall hall) {
            if (!tokens.nameNext()) {
                return NONE;
            }
            int caller = hall.callerNamed(tokens.name);
            if (caller == NONE) {
                tokens.refuse(3);
            }
            return caller;
        }
    }

    /** Reads MORNINGS from the tape, with the names of the HALL that there is. */
    private static final class MorningsReader {
        static final int LAST_CRY = 2;
        static final int MOST_TURNS = 99;
        private final Tokens tokens;
        private final int[] open = new int[Steps.MOST_DEPTH];
        private int depth;

        MorningsReader(Tokens tokens) {
            this.tokens = tokens;
        }

        boolean readInto(Steps steps, Hall hall) {
            steps.clear();
            depth = 0;
            for (int step = 0; step <= Tokens.MORNINGS_TEXT; step++) {
                tokens.advance();
                if (tokens.kind == Tokens.FINISH) {
                    steps.there = true;
                    return depth == 0 || tokens.refuse(2);
                }
                boolean ends = tokens.word() == Tokens.END;
                boolean read = ends ? readEnd(steps) : beginStep(steps) && readRest(steps, hall);
                if (!read || !tokens.closeNext()) {
                    return false;
                }
            }
            return tokens.refuse(2);
        }

        private boolean readEnd(Steps steps) {
            if (depth <= 0) {
                return tokens.refuse(2);
            }
            depth--;
            int row = steps.rows;
            steps.word[row] = Tokens.END;
            steps.link[row] = open[depth];
            steps.link[open[depth]] = row;
            steps.rows++;
            return true;
        }

        private boolean beginStep(Steps steps) {
            int word = tokens.word();
            boolean holdsOthers = word == Tokens.WHEN || word == Tokens.LOOP;
            if (!holdsOthers && !isPlainStep(word)) {
                return tokens.refuse(2);
            }
            if (steps.many >= Steps.MOST) {
                return tokens.refuse(6);
            }
            if (holdsOthers && depth >= Steps.MOST_DEPTH) {
                return tokens.refuse(7);
            }
            int row = steps.rows;
            steps.word[row] = word;
            steps.rows++;
            steps.many++;
            if (holdsOthers) {
                open[depth] = row;
                depth++;
            }
            return true;
        }

        private static boolean isPlainStep(int word) {
            switch (word) {
                case Tokens.SAY:
                case Tokens.HUSH:
                case Tokens.WALK:
                case Tokens.RECORD:
                case Tokens.ANY:
                case Tokens.STOP:
                    return true;
                default:
                    return false;
            }
        }

        /** What stands between the word of the STEP begun latest and its end. */
        private boolean readRest(Steps steps, Hall hall) {
            int row = steps.rows - 1;
            switch (tokens.word()) {
                case Tokens.SAY:
                    return readCaller(steps, row, hall) && readWhere(steps, row, LAST_CRY)
                        && readNumber(steps, row, 0, LAST_START);
                case Tokens.WALK:
                    return readCaller(steps, row, hall) && readPlace(steps, row, hall);
                case Tokens.WHEN:
                    return readTest(steps, row, hall);
                case Tokens.LOOP:
                    return readNumber(steps, row, 1, MOST_TURNS);
                default:
                    return true;
            }
        }

        private boolean readTest(Steps steps, int row, Hall hall) {
            tokens.advance();
            steps.test[row] = tokens.word();
            switch (steps.test[row]) {
                case Tokens.HEARD:
                    return readSlate(steps, row, hall) && readWhere(steps, row, LAST_BEAT)
                        && readSign(steps, row) && readNumber(steps, row, 0, MOST_SUM);
                case Tokens.AT:
                    return readCaller(steps, row, hall) && readPlace(steps, row, hall);
                case Tokens.CALLS:
                    return readSign(steps, row) && readNumber(steps, row, 0, MOST_CALLS);
                default:
                    return tokens.refuse(2);
            }
        }

        private boolean readSlate(Steps steps, int row, Hall hall) {
            if (!tokens.nameNext()) {
                return false;
            }
            steps.who[row] = hall.slateNamed(tokens.name);
            return steps.who[row] != NONE || tokens.refuse(3);
        }

        private boolean readCaller(Steps steps, int row, Hall hall) {
            if (!tokens.nameNext()) {
                return false;
            }
            steps.who[row] = hall.callerNamed(tokens.name);
            return steps.who[row] != NONE || tokens.refuse(3);
        }

        private boolean readPlace(Steps steps, int row, Hall hall) {
            if (!tokens.nameNext()) {
                return false;
            }
            steps.where[row] = hall.placeNamed(tokens.name);
            return steps.where[row] != NONE || tokens.refuse(3);
        }

        private boolean readSign(Steps steps, int row) {
            if (!tokens.compareNext()) {
                return false;
            }
            steps.sign[row] = tokens.value;
            return true;
        }

        private boolean readWhere(Steps steps, int row, int most) {
            if (!tokens.numberNext(0, most)) {
                return false;
            }
            steps.where[row] = tokens.value;
            return true;
        }

        private boolean readNumber(Steps steps, int row, int least, int most) {
            if (!tokens.numberNext(least, most)) {
                return false;
            }
            steps.number[row] = tokens.value;
            return true;
        }
    }

    /** Lives the MORNINGS of a HALL once, and counts what came of it. */
    private static final class Life {
        static final int MOST_DONE = 300;
        // far above the rows that 300 STEPS and the ends between them can come to
        static final int MOST_ROWS_PASSED = 100000;
        int done;
        int missed;
        int said;
        int struck;
        int walked;
        int left;
        private int seed;
        private final int[] turnsLeft = new int[Steps.MOST_ROWS];

        void run(Hall hall, int firstSeed) {
            done = 0;
            missed = 0;
            said = 0;
            struck = 0;
            walked = 0;
            left = 0;
            seed = firstSeed;
            Steps steps = hall.steps;
            int row = 0;
            for (int passed = 0; passed < MOST_ROWS_PASSED && row < steps.rows; passed++) {
                if (steps.word[row] == Tokens.END) {
                    row = behindEnd(steps, row);
                } else if (done >= MOST_DONE) {
                    left = 1;
                    row = steps.rows;
                } else {
                    done++;
                    row = behindStep(hall, steps, row);
                }
            }
        }

        private int behindEnd(Steps steps, int row) {
            int begin = steps.link[row];
            if (steps.word[begin] == Tokens.LOOP) {
                turnsLeft[begin]--;
                if (turnsLeft[begin] > 0) {
                    return begin + 1;
                }
            }
            return row + 1;
        }

        private int behindStep(Hall hall, Steps steps, int row) {
            switch (steps.word[row]) {
                case Tokens.STOP:
                    return steps.rows;
                case Tokens.WHEN:
                    return holds(hall, steps, row) ? row + 1 : steps.link[row] + 1;
                case Tokens.LOOP:
                    turnsLeft[row] = steps.number[row];
                    // turns with no STEP in them change nothing, and so would only take time
                    return steps.link[row] == row + 1 ? row + 2 : row + 1;
                default:
                    act(hall, steps, row);
                    return row + 1;
            }
        }

        private void act(Hall hall, Steps steps, int row) {
            switch (steps.word[row]) {
                case Tokens.SAY:
                    speak(hall, steps.who[row], steps.where[row], steps.number[row]);
                    break;
                case Tokens.ANY:
                    speakByDraws(hall);
                    break;
                case Tokens.HUSH:
                    strikeLast(hall);
                    break;
                case Tokens.WALK:
                    go(hall, steps.who[row], steps.where[row]);
                    break;
                case Tokens.RECORD:
                    hall.keepSums();
                    break;
                default:
                    break;
            }
        }

        private void speak(Hall hall, int caller, int cry, int beat) {
            if (hall.addCall(caller, cry, beat) == OK) {
                said++;
            } else {
                missed++;
            }
        }

        private void speakByDraws(Hall hall) {
            if (hall.callers <= 0) {
                missed++;
                return;
            }
            int caller = draw(hall.callers);
            int cry = draw(MOST_CRIES);
            int beat = draw(STARTS);
            speak(hall, caller, cry, beat);
        }

        private void strikeLast(Hall hall) {
            if (hall.calls > 0) {
                hall.strike(hall.calls - 1);
                struck++;
            } else {
                missed++;
            }
        }

        private void go(Hall hall, int caller, int place) {
            if (hall.stands[caller] == place) {
                missed++;
            } else {
                hall.stands[caller] = place;
                walked++;
            }
        }

        private boolean holds(Hall hall, Steps steps, int row) {
            int who = steps.who[row];
            int where = steps.where[row];
            switch (steps.test[row]) {
                case Tokens.HEARD:
                    return compares(hall.sumAt(who, where), steps.sign[row], steps.number[row]);
                case Tokens.AT:
                    return hall.stands[who] == where;
                default:
                    return compares(hall.calls, steps.sign[row], steps.number[row]);
            }
        }

        private static boolean compares(int one, int sign, int other) {
            switch (sign) {
                case '<':
                    return one < other;
                case '>':
                    return one > other;
                default:
                    return one == other;
            }
        }

        private int draw(int many) {
            seed = (seed * 3203 + 11437) % 65536;
            return many > 0 ? seed / 8 % many : 0;
        }
    }

    /** Makes out from the RECORDED sums alone which CALLS were said. A kind is a CALLER and one of his CRIES. */
    private static final class Guess {
        int many;
        int manyWith;
        int leastSize;
        int bestSize;
        final int[] best = new int[MOST_ANSWER];
        private int limit;
        private int sought;
        private int leftTogether;
        /** The most that is HEARD of one CALL, on all SLATES together. */
        private int greatest;
        private final int[] chosen = new int[MOST_ANSWER];
        private final int[] sorted = new int[MOST_ANSWER];
        /** What is RECORDED, less the CALLS that are chosen. */
        private final int[] left = new int[CELLS];
        private final int[] amounts = new int[KINDS * MOST_SLATES * MOST_NUMBERS];
        private final int[] beats = new int[KINDS * MOST_SLATES];
        /** The first number HEARD above 0 of a kind on a SLATE, or NONE. */
        private final int[] opening = new int[KINDS * MOST_SLATES];
        /** On how many places (a SLATE and a BEAT) a kind is HEARD above 0. */
        private final int[] breadth = new int[KINDS];
        private final int[] change = new int[KINDS * STARTS];

        void findAnswers(Hall hall, int most, int soughtCall) {
            listen(hall);
            many = 0;
            manyWith = 0;
            leastSize = MOST_ANSWER + 1;
            bestSize = NONE;
            limit = most;
            sought = soughtCall;
            search(this, 0, 0, NONE);
        }

        private void listen(Hall hall) {
            System.arraycopy(hall.sums, 0, left, 0, CELLS);
            leftTogether = hall.totalKept();
            greatest = 0;
            for (int kind = 0; kind < KINDS; kind++) {
                breadth[kind] = 0;
                int together = 0;
                boolean there = hall.hasCry(kind / MOST_CRIES, kind % MOST_CRIES);
                for (int slate = 0; slate < MOST_SLATES; slate++) {
                    opening[kind * MOST_SLATES + slate] = NONE;
                    if (there && slate < hall.slates) {
                        together += listenOn(hall, kind, slate);
                    }
                }
                greatest = Math.max(greatest, together);
            }
        }

        /** Answers all that is HEARD of a kind on a SLATE together. */
        private int listenOn(Hall hall, int kind, int slate) {
            int distance = hall.distanceToSlate(kind / MOST_CRIES, slate);
            if (distance >= Hall.NO_WAY) {
                return 0;
            }
            int together = 0;
            int at = kind * MOST_SLATES + slate;
            beats[at] = Hall.beatsOf(distance);
            for (int i = MOST_NUMBERS - 1; i >= 0; i--) {
                int amount = hall.amount(kind, i, Hall.lossOf(distance));
                amounts[at * MOST_NUMBERS + i] = amount;
                together += amount;
                if (amount > 0) {
                    opening[at] = i;
                    breadth[kind]++;
                }
            }
            return together;
        }

        /**
         * Explains the first cell in which something is left. All cells ahead of it are empty, so a CALL that is
         * HEARD there begins there on that SLATE: one BEAT for each kind. Kinds that explain one cell together are
         * chosen in order, so that each set is met once. The depth is at most MOST_ANSWER.
         */
        private static void search(Guess guess, int depth, int from, int behind) {
            if (guess.leftTogether == 0) {
                guess.note(depth);
                return;
            }
            // so many CALLS more can't bring all that is left; with none more, nothing can
            if (depth >= guess.limit || (guess.limit - depth) * guess.greatest < guess.leftTogether) {
                return;
            }
            int cell = guess.firstLeft(from);
            for (int kind = cell == from ? behind + 1 : 0; kind < KINDS; kind++) {
                int beat = guess.beginFor(kind, cell);
                if (beat != NONE && guess.fits(kind, beat)) {
                    guess.chosen[depth] = kind * STARTS + beat;
                    guess.take(kind, beat, 1);
                    search(guess, depth + 1, cell, kind);
                    guess.take(kind, beat, -1);
                }
            }
        }

        private int firstLeft(int from) {
            for (int cell = from; cell < CELLS; cell++) {
                if (left[cell] > 0) {
                    return cell;
                }
            }
            return CELLS;
        }

        private int beginFor(int kind, int cell) {
            int at = kind * MOST_SLATES + cell % MOST_SLATES;
            if (cell >= CELLS || opening[at] == NONE) {
                return NONE;
            }
            int beat = cell / MOST_SLATES - beats[at] - opening[at];
            return beat >= 0 && beat <= LAST_START ? beat : NONE;
        }

        private boolean fits(int kind, int beat) {
            for (int slate = 0; slate < MOST_SLATES; slate++) {
                int at = kind * MOST_SLATES + slate;
                for (int i = opening[at]; i >= 0 && i < MOST_NUMBERS; i++) {
                    if (left[Hall.cellOf(slate, beat + beats[at] + i)] < amounts[at * MOST_NUMBERS + i]) {
                        return false;
                    }
                }
            }
            return true;
        }

        private void take(int kind, int beat, int times) {
            for (int slate = 0; slate < MOST_SLATES; slate++) {
                int at = kind * MOST_SLATES + slate;
                for (int i = opening[at]; i >= 0 && i < MOST_NUMBERS; i++) {
                    int amount = times * amounts[at * MOST_NUMBERS + i];
                    left[Hall.cellOf(slate, beat + beats[at] + i)] -= amount;
                    leftTogether -= amount;
                }
            }
        }

        private void note(int size) {
            many++;
            leastSize = Math.min(leastSize, size);
            sortChosen(size);
            for (int i = 0; i < size; i++) {
                if (sorted[i] == sought) {
                    manyWith++;
                }
            }
            if (bestSize == NONE || comesFirst(size)) {
                bestSize = size;
                System.arraycopy(sorted, 0, best, 0, size);
            }
        }

        private void sortChosen(int size) {
            for (int i = 0; i < size; i++) {
                int at = i;
                while (at > 0 && sorted[at - 1] > chosen[i]) {
                    sorted[at] = sorted[at - 1];
                    at--;
                }
                sorted[at] = chosen[i];
            }
        }

        private boolean comesFirst(int size) {
            for (int i = 0; i < size && i < bestSize; i++) {
                if (sorted[i] != best[i]) {
                    return sorted[i] < best[i];
                }
            }
            return size < bestSize;
        }

        // ---- SLIPS

        /** Meets the sets in the order of FIRST, so that only a better one takes the place of the best. */
        void findSlips(Hall hall, int most) {
            listen(hall);
            bestSize = 0;
            many = 0;
            for (int cell = 0; cell < CELLS; cell++) {
                many += left[cell] != 0 ? 1 : 0;
            }
            int alone = many;
            int lowest = weighEach();
            for (int call = 0; most > 0 && call < KINDS * STARTS; call++) {
                if (breadth[call / STARTS] == 0) {
                    continue;
                }
                if (alone + change[call] < many) {
                    many = alone + change[call];
                    bestSize = 1;
                    best[0] = call;
                }
                // a second CALL mends at most one place more for each place of the first than it does alone
                if (most > 1 && alone + change[call] + lowest - breadth[call / STARTS] < many) {
                    findSecond(call, alone);
                }
            }
        }

        /** Notes by how much each CALL alone changes the slips; answers the least of these. */
        private int weighEach() {
            int lowest = 0;
            for (int call = 0; call < KINDS * STARTS; call++) {
                if (breadth[call / STARTS] > 0) {
                    change[call] = changeBy(call);
                    lowest = Math.min(lowest, change[call]);
                }
            }
            return lowest;
        }

        private void findSecond(int call, int alone) {
            int kind = call / STARTS;
            take(kind, call % STARTS, 1);
            int withFirst = alone + change[call];
            for (int second = call + 1; second < KINDS * STARTS; second++) {
                int overlap = Math.min(breadth[kind], breadth[second / STARTS]);
                if (overlap == 0 || withFirst + change[second] - overlap >= many) {
                    continue;
                }
                int together = withFirst + changeBy(second);
                if (together < many) {
                    many = together;
                    bestSize = 2;
                    best[0] = call;
                    best[1] = second;
                }
            }
            take(kind, call % STARTS, -1);
        }

        private int changeBy(int call) {
            int kind = call / STARTS;
            int difference = 0;
            for (int slate = 0; slate < MOST_SLATES; slate++) {
                int at = kind * MOST_SLATES + slate;
                for (int i = opening[at]; i >= 0 && i < MOST_NUMBERS; i++) {
                    int amount = amounts[at * MOST_NUMBERS + i];
                    int there = left[Hall.cellOf(slate, call % STARTS + beats[at] + i)];
                    if (amount > 0 && there == 0) {
                        difference++;
                    } else if (amount > 0 && there == amount) {
                        difference--;
                    }
                }
            }
            return difference;
        }
    }

    /** Finds the WAYS of which another LONG or LOSS would make the SUMS what is RECORDED. */
    private static final class Moves {
        static final int MOST_PAIRS = MOST_CALLS * MOST_SLATES;
        int many;
        int sought;
        int soughtLong;
        int soughtLoss;
        private int leftTogether;
        private int touched;
        private final int[] near = new int[MOST_PLACES * MOST_PLACES];
        private final int[] left = new int[CELLS];
        private final int[] touchedCells = new int[MOST_PAIRS * MOST_NUMBERS];
        private final int[] touchedBy = new int[MOST_PAIRS * MOST_NUMBERS];
        /** Of each CALL and SLATE: the distance without the WAY, and by it, less its own weight. */
        private final int[] without = new int[MOST_PAIRS];
        private final int[] along = new int[MOST_PAIRS];

        /** Counts them all, and keeps the k-th. */
        void find(Hall hall, int k) {
            many = 0;
            System.arraycopy(hall.sums, 0, left, 0, CELLS);
            leftTogether = hall.totalKept();
            for (int way = 0; way < hall.ways; way++) {
                hall.measure(way, near);
                measurePairs(hall, hall.ends[2 * way], hall.ends[2 * way + 1]);
                findOf(hall, way, k);
            }
        }

        private void measurePairs(Hall hall, int one, int other) {
            for (int call = 0; call < hall.calls; call++) {
                int from = hall.stands[hall.callerOf(call)] * MOST_PLACES;
                for (int slate = 0; slate < hall.slates; slate++) {
                    int to = hall.hangs[slate];
                    int there = near[from + one] + near[other * MOST_PLACES + to];
                    int back = near[from + other] + near[one * MOST_PLACES + to];
                    without[call * MOST_SLATES + slate] = near[from + to];
                    along[call * MOST_SLATES + slate] = Math.min(there, back);
                }
            }
        }

        private void findOf(Hall hall, int way, int k) {
            // a WAY that nothing comes by leaves all SUMS as they are without it, so these are asked once
            boolean explainedWithout = explains(hall, Hall.NO_WAY);
            for (int size = 1; size <= MOST_LONG; size++) {
                for (int loss = 0; loss <= MOST_LOSS; loss++) {
                    boolean same = size == hall.longs[way] && loss == hall.losses[way];
                    int weight = size * Hall.BEAT_WEIGHT + loss;
                    if (!same && (isUsed(hall, weight) ? explains(hall, weight) : explainedWithout)) {
                        note(way, size, loss, k);
                    }
                }
            }
        }

        private void note(int way, int size, int loss, int k) {
            if (many == k) {
                sought = way;
                soughtLong = size;
                soughtLoss = loss;
            }
            many++;
        }

        private boolean isUsed(Hall hall, int weight) {
            for (int call = 0; call < hall.calls; call++) {
                for (int slate = 0; slate < hall.slates; slate++) {
                    int pair = call * MOST_SLATES + slate;
                    if (along[pair] + weight < without[pair]) {
                        return true;
                    }
                }
            }
            return false;
        }

        private boolean explains(Hall hall, int weight) {
            touched = 0;
            boolean fitting = true;
            for (int call = 0; fitting && call < hall.calls; call++) {
                for (int slate = 0; fitting && slate < hall.slates; slate++) {
                    int pair = call * MOST_SLATES + slate;
                    int distance = Math.min(without[pair], along[pair] + weight);
                    fitting = distance >= Hall.NO_WAY || takes(hall, call, slate, distance);
                }
            }
            boolean whole = fitting && leftTogether == 0;
            giveBack();
            return whole;
        }

        /** Takes what is HEARD of a CALL out of what is left; false if more is HEARD than was left. */
        private boolean takes(Hall hall, int call, int slate, int distance) {
            int begin = hall.startOf(call) + Hall.beatsOf(distance);
            boolean fitting = true;
            for (int i = 0; i < MOST_NUMBERS; i++) {
                int amount = hall.amount(hall.kindOf(call), i, Hall.lossOf(distance));
                int cell = Hall.cellOf(slate, begin + i);
                left[cell] -= amount;
                leftTogether -= amount;
                touchedCells[touched] = cell;
                touchedBy[touched] = amount;
                touched++;
                fitting = fitting && left[cell] >= 0;
            }
            return fitting;
        }

        private void giveBack() {
            for (int i = 0; i < touched; i++) {
                left[touchedCells[i]] += touchedBy[i];
                leftTogether += touchedBy[i];
            }
        }
    }

    /** Tells which CRIES no SLATES can part, and where to hang SLATES so that all are parted. */
    private static final class Parting {
        static final int MOST_LATER = 20;
        /** Not ALIKE by any BEATS. */
        static final int APART = 1000;
        /** ALIKE by whatever BEATS: neither is HEARD. */
        static final int ANY_BEATS = 1001;
        /** What is HEARD of a kind AT a PLACE from its first number above 0 on, as one number; 0: nothing. */
        private final int[] shapes = new int[KINDS * MOST_PLACES];
        private final int[] begins = new int[KINDS * MOST_PLACES];
        private final int[] laterAtPlace = new int[MOST_PLACES];
        private final int[] laterBySet = new int[1 << MOST_PLACES];
        private final int[] unparted = new int[1 << MOST_PLACES];

        void listen(Hall hall) {
            for (int kind = 0; kind < KINDS; kind++) {
                int caller = kind / MOST_CRIES;
                for (int place = 0; place < hall.places && hall.hasCry(caller, kind % MOST_CRIES); place++) {
                    listenAt(hall, kind, place, hall.distance(hall.stands[caller], place));
                }
            }
        }

        private void listenAt(Hall hall, int kind, int place, int distance) {
            int at = kind * MOST_PLACES + place;
            int shape = 0;
            int begin = Hall.beatsOf(distance);
            for (int i = 0; i < MOST_NUMBERS && distance < Hall.NO_WAY; i++) {
                int amount = hall.amount(kind, i, Hall.lossOf(distance));
                if (shape == 0) {
                    begin = Hall.beatsOf(distance) + i;
                }
                shape = shape * 100 + amount;
            }
            begins[at] = begin;
            shapes[at] = leftAligned(shape);
        }

        // silence behind the last number is no part of what is HEARD, so it must not tell two apart
        private static int leftAligned(int shape) {
            int aligned = shape;
            for (int turn = 0; turn < MOST_NUMBERS && aligned > 0 && aligned < 10000; turn++) {
                aligned *= 100;
            }
            return aligned;
        }

        /** By how many BEATS later the second is said so that both are ALIKE by a set of PLACES. */
        int laterBy(int kind, int other, int set) {
            int later = ANY_BEATS;
            for (int place = 0; place < MOST_PLACES && later != APART; place++) {
                if ((set >> place & 1) != 0) {
                    later = both(later, laterAt(kind, other, place));
                }
            }
            return later;
        }

        private static int both(int later, int its) {
            if (later == ANY_BEATS || later == its) {
                return its;
            }
            return its == ANY_BEATS ? later : APART;
        }

        private int laterAt(int kind, int other, int place) {
            int at = kind * MOST_PLACES + place;
            int its = other * MOST_PLACES + place;
            if (shapes[at] != shapes[its]) {
                return APART;
            }
            if (shapes[at] == 0) {
                return ANY_BEATS;
            }
            int later = begins[at] - begins[its];
            return Math.abs(later) <= MOST_LATER ? later : APART;
        }

        boolean partsAll(Hall hall, int set) {
            for (int kind = 0; kind < KINDS; kind++) {
                for (int other = kind + 1; other < KINDS && isThere(hall, kind); other++) {
                    if (isThere(hall, other) && laterBy(kind, other, set) != APART) {
                        return false;
                    }
                }
            }
            return true;
        }

        private static boolean isThere(Hall hall, int kind) {
            return hall.hasCry(kind / MOST_CRIES, kind % MOST_CRIES);
        }

        /** The least of the smallest sets of PLACES by which all are parted, or NONE. */
        int leastSet(Hall hall) {
            int sets = 1 << hall.places;
            Arrays.fill(unparted, 0);
            for (int kind = 0; kind < KINDS; kind++) {
                for (int other = kind + 1; other < KINDS && isThere(hall, kind); other++) {
                    if (isThere(hall, other)) {
                        markUnparted(kind, other, sets);
                    }
                }
            }
            int best = NONE;
            for (int set = sets - 1; set >= 0; set--) {
                boolean smaller = best == NONE || Integer.bitCount(set) <= Integer.bitCount(best);
                if (unparted[set] == 0 && smaller) {
                    best = set;
                }
            }
            return best;
        }

        /** Marks the sets by which two are ALIKE, each set by what is known of it without its least PLACE. */
        private void markUnparted(int kind, int other, int sets) {
            laterBySet[0] = ANY_BEATS;
            unparted[0] = 1;
            for (int place = 0; 1 << place < sets; place++) {
                laterAtPlace[place] = laterAt(kind, other, place);
            }
            for (int set = 1; set < sets; set++) {
                int place = Integer.numberOfTrailingZeros(set);
                laterBySet[set] = both(laterBySet[set & (set - 1)], laterAtPlace[place]);
                if (laterBySet[set] != APART) {
                    unparted[set] = 1;
                }
            }
        }
    }
}
