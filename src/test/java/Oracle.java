import java.util.ArrayList;
import java.util.Arrays;
import java.util.List;

/**
 * The document once more, told as plainly as possible and without regard to speed: lists, exceptions, brute force.
 * OracleTest holds MurmurHall against it.
 */
final class Oracle {
    private static final List<String> RESERVED = List.of("odds", "place", "way", "long", "loses", "slate", "at",
        "caller", "cry", "call", "say", "hush", "walk", "record", "any", "when", "heard", "calls", "loop", "end", "stop");

    static final class Fault extends RuntimeException {
        final int kind;
        final int place;
        Fault(int kind, int place) { super(null, null, false, false); this.kind = kind; this.place = place; }
    }

    record Token(char kind, int start, String text) { }
    record Call(int caller, int cry, int beat) { int number() { return caller * 63 + cry * 21 + beat; } }
    static final class Step { String word, test = "", sign = ""; int a, b, c; List<Step> body; }

    static final class State {
        int odds = 4;
        List<String> places = new ArrayList<>(), slates = new ArrayList<>(), callers = new ArrayList<>();
        List<int[]> ways = new ArrayList<>();
        List<Integer> slateAt = new ArrayList<>(), callerAt = new ArrayList<>();
        List<List<int[]>> cries = new ArrayList<>();
        List<Call> calls = new ArrayList<>();
        int[][] recorded;
        List<Step> mornings;
        int morningsCount;

        State copy() {
            State s = new State();
            s.odds = odds;
            s.places.addAll(places); s.slates.addAll(slates); s.callers.addAll(callers);
            for (int[] w : ways) s.ways.add(w.clone());
            s.slateAt.addAll(slateAt); s.callerAt.addAll(callerAt);
            for (List<int[]> l : cries) s.cries.add(new ArrayList<>(l));
            s.calls.addAll(calls);
            if (recorded != null) { s.recorded = new int[4][]; for (int i = 0; i < 4; i++) s.recorded[i] = recorded[i].clone(); }
            s.mornings = mornings; s.morningsCount = morningsCount;
            return s;
        }

        /** {BEATS, LOSS} from a place to each, null where there is no way: ways are tried until nothing gets better. */
        int[][] reach(int from) {
            int[][] d = new int[places.size()][];
            d[from] = new int[] {0, 0};
            for (boolean again = true; again; ) {
                again = false;
                for (int[] w : ways) {
                    for (int dir = 0; dir < 2; dir++) {
                        int[] a = d[w[dir]];
                        if (a == null) continue;
                        int[] n = {a[0] + w[2], a[1] + w[3]};
                        int[] o = d[w[1 - dir]];
                        if (o == null || n[0] < o[0] || n[0] == o[0] && n[1] < o[1]) { d[w[1 - dir]] = n; again = true; }
                    }
                }
            }
            return d;
        }

        /** SUMS of such CALLS, a row a SLATE, four rows always. */
        int[][] sums(List<Call> said) {
            int[][] r = new int[4][91];
            for (Call c : said) {
                int[][] d = reach(callerAt.get(c.caller));
                int[] x = cries.get(c.caller).get(c.cry);
                for (int s = 0; s < slates.size(); s++) {
                    int[] to = d[slateAt.get(s)];
                    if (to == null) continue;
                    for (int i = 0; i < x.length; i++) r[s][c.beat + i + to[0]] += Math.max(0, x[i] - to[1]);
                }
            }
            return r;
        }

        List<Call> loud() {
            List<Call> l = new ArrayList<>();
            for (int p = 0; p < callers.size(); p++)
                for (int c = 0; c < cries.get(p).size(); c++)
                    for (int b = 0; b <= 20; b++) {
                        Call k = new Call(p, c, b);
                        if (b == 0 && total(sums(List.of(k))) == 0) break;
                        l.add(k);
                    }
            return l;
        }
    }

    static int total(int[][] r) { int t = 0; for (int[] q : r) for (int v : q) t += v; return t; }

    State h = new State();
    final List<State> marks = new ArrayList<>();
    final long[][] trays = new long[4][];
    final int[] sorts = new int[4];
    final List<Integer> tape = new ArrayList<>();
    int status;
    long top = 0, bottom = 1;
    int faultKind = -1, faultPlace = -1;
    int[] lived;

    private int fail(int s) { status = s; return -1; }
    private int ok(int v) { status = 0; return v; }
    private boolean no(int s) { status = s; return false; }
    private boolean yes() { status = 0; return true; }
    private static boolean in(int v, int lo, int hi) { return v >= lo && v <= hi; }

    // ---- TRAYS
    boolean tray(int t, int sort, int many) {
        if (!in(t, 0, 3) || !in(sort, 0, 3) || !in(many, 0, 60)) return no(1);
        trays[t] = new long[many]; sorts[t] = sort;
        return yes();
    }
    private long cut(int t, long v) {
        int bits = 8 << sorts[t];
        return bits == 64 ? v : v << (64 - bits) >> (64 - bits);
    }
    boolean write(int t, int p, long v) {
        if (!in(t, 0, 3)) return no(1);
        if (trays[t] == null) return no(2);
        if (!in(p, 0, trays[t].length - 1)) return no(3);
        trays[t][p] = cut(t, v);
        return yes();
    }
    long read(int t, int p) {
        if (!in(t, 0, 3)) return fail(1);
        if (trays[t] == null) return fail(2);
        if (!in(p, 0, trays[t].length - 1)) return fail(3);
        status = 0;
        return trays[t][p];
    }
    boolean pour(int f, int p, int t, int a, int m) {
        if (!in(f, 0, 3) || !in(t, 0, 3) || p < 0 || a < 0 || m < 0) return no(1);
        if (trays[f] == null || trays[t] == null) return no(2);
        if (sorts[f] != sorts[t]) return no(8);
        if ((long) p + m > trays[f].length || (long) a + m > trays[t].length) return no(3);
        long[] copy = Arrays.copyOfRange(trays[f], p, p + m);
        for (int i = 0; i < m; i++) trays[t][a + i] = copy[i];
        return yes();
    }

    // ---- texts
    int feed(int a, int b, int c, int d, int e) {
        if (tape.size() + 20 > 900) return -1;
        for (int v : new int[] {a, b, c, d, e}) for (int s = 24; s >= 0; s -= 8) tape.add(v >>> s & 255);
        return tape.size();
    }

    private List<Token> tokens; private int at; private Token cur;
    private void lex(int n) {
        tokens = new ArrayList<>(); at = 0;
        int i = 0;
        while (true) {
            while (i < n && (tape.get(i) == 10 || tape.get(i) == 32)) i++;
            if (i >= n) { tokens.add(new Token('$', n, "")); return; }
            int j = i;
            StringBuilder b = new StringBuilder();
            while (j < n && in(tape.get(j), 'a', 'z')) b.append((char) (int) tape.get(j++));
            if (j > i) { tokens.add(new Token('w', i, b.toString())); i = j; continue; }
            while (j < n && in(tape.get(j), '0', '9')) b.append((char) (int) tape.get(j++));
            if (j > i) { tokens.add(new Token(j - i > 4 ? '!' : 'n', i, b.toString())); i = j; continue; }
            char c = (char) (int) tape.get(i);
            tokens.add(new Token(";<>=".indexOf(c) >= 0 ? 's' : '!', i, "" + c));
            i++;
        }
    }
    private Token next() { cur = tokens.get(at++); if (cur.kind == '!') throw new Fault(1, cur.start); return cur; }
    private Token peek() { return tokens.get(at); }
    private Fault here(int kind) { return new Fault(kind, cur.start); }
    private void word(String w) { next(); if (cur.kind != 'w' || !cur.text.equals(w)) throw here(2); }
    private void semi() { next(); if (!cur.text.equals(";")) throw here(2); }
    private String name() {
        next();
        if (cur.kind != 'w' || cur.text.length() > 8 || RESERVED.contains(cur.text)) throw here(2);
        return cur.text;
    }
    private int named(List<String> l) { int i = l.indexOf(name()); if (i < 0) throw here(3); return i; }
    private int number(int lo, int hi) {
        next();
        if (cur.kind != 'n') throw here(2);
        int v = Integer.parseInt(cur.text);
        if (!in(v, lo, hi)) throw here(4);
        return v;
    }
    private String fresh(State s) {
        String n = name();
        if (s.places.contains(n) || s.slates.contains(n) || s.callers.contains(n)) throw here(3);
        return n;
    }

    int hall(int n) {
        if (!in(n, 0, tape.size())) return fail(1);
        lex(n);
        tape.clear();
        try {
            State s = new State();
            boolean odds = false;
            while (next().kind != '$') {
                switch (cur.kind == 'w' ? cur.text : "") {
                    case "odds" -> { if (odds) throw here(5); odds = true; s.odds = number(0, 16); }
                    case "place" -> { if (s.places.size() == 7) throw here(6); s.places.add(fresh(s)); }
                    case "way" -> {
                        if (s.ways.size() == 10) throw here(6);
                        int a = named(s.places), b = named(s.places);
                        if (a == b) throw here(5);
                        word("long");
                        int l = number(1, 9), o = 0;
                        if (peek().text.equals("loses")) { next(); o = number(0, 9); }
                        s.ways.add(new int[] {a, b, l, o});
                    }
                    case "slate" -> {
                        if (s.slates.size() == 4) throw here(6);
                        String m = fresh(s); word("at"); s.slateAt.add(named(s.places)); s.slates.add(m);
                    }
                    case "caller" -> {
                        if (s.callers.size() == 5) throw here(6);
                        String m = fresh(s); word("at"); s.callerAt.add(named(s.places)); s.callers.add(m);
                        s.cries.add(new ArrayList<>());
                    }
                    case "cry" -> {
                        int p = named(s.callers);
                        if (s.cries.get(p).size() == 3) throw here(6);
                        List<Integer> x = new ArrayList<>();
                        x.add(number(1, 99));
                        while (x.size() < 3 && peek().kind == 'n') x.add(number(1, 99));
                        s.cries.get(p).add(x.stream().mapToInt(v -> v).toArray());
                    }
                    case "call" -> {
                        if (s.calls.size() == 8) throw here(6);
                        int p = named(s.callers), c = number(0, s.cries.get(p).size() - 1);
                        word("at");
                        Call k = new Call(p, c, number(0, 20));
                        if (s.calls.contains(k)) throw here(5);
                        s.calls.add(k);
                    }
                    default -> throw here(2);
                }
                semi();
            }
            h = s;
            faultKind = 0; faultPlace = -1;
            return ok(s.callers.size());
        } catch (Fault f) {
            faultKind = f.kind; faultPlace = f.place;
            return fail(9);
        }
    }

    private int stepsRead;
    private List<Step> block(int depth) {
        List<Step> l = new ArrayList<>();
        while (true) {
            next();
            if (cur.kind == '$') { if (depth > 0) throw here(2); return l; }
            if (cur.text.equals("end")) { if (depth == 0) throw here(2); semi(); return l; }
            boolean holds = cur.text.equals("when") || cur.text.equals("loop");
            if (!holds && !List.of("say", "hush", "walk", "record", "any", "stop").contains(cur.text)) throw here(2);
            if (stepsRead == 30) throw here(6);
            if (holds && depth == 3) throw here(7);
            stepsRead++;
            Step s = new Step();
            s.word = cur.text;
            l.add(s);
            switch (s.word) {
                case "say" -> { s.a = named(h.callers); s.b = number(0, 2); s.c = number(0, 20); }
                case "walk" -> { s.a = named(h.callers); s.b = named(h.places); }
                case "loop" -> s.c = number(1, 99);
                case "when" -> {
                    s.test = next().text;
                    switch (s.test) {
                        case "heard" -> { s.a = named(h.slates); s.b = number(0, 90); s.sign = compare(); s.c = number(0, 999); }
                        case "at" -> { s.a = named(h.callers); s.b = named(h.places); }
                        case "calls" -> { s.sign = compare(); s.c = number(0, 8); }
                        default -> throw here(2);
                    }
                }
                default -> { }
            }
            semi();
            if (holds) s.body = block(depth + 1);
        }
    }
    private String compare() { next(); if (cur.kind != 's' || cur.text.equals(";")) throw here(2); return cur.text; }

    int mornings(int n) {
        if (!in(n, 0, Math.min(300, tape.size()))) return fail(1);
        lex(n);
        tape.clear();
        try {
            stepsRead = 0;
            List<Step> l = block(0);
            h.mornings = l; h.morningsCount = stepsRead;
            faultKind = 0; faultPlace = -1;
            return ok(stepsRead);
        } catch (Fault f) {
            faultKind = f.kind; faultPlace = f.place;
            return fail(9);
        }
    }
    int fault(int what) { return what == 0 ? faultKind : what == 1 ? faultPlace : -1; }

    int told(int w) {
        return switch (w) {
            case 0 -> ok(h.places.size()); case 1 -> ok(h.ways.size()); case 2 -> ok(h.slates.size());
            case 3 -> ok(h.callers.size()); case 4 -> ok(h.calls.size()); case 5 -> ok(h.odds);
            case 6 -> ok(h.recorded == null ? 0 : 1);
            case 7 -> ok(h.cries.stream().mapToInt(List::size).sum());
            default -> fail(1);
        };
    }
    private boolean place(int p) { return in(p, 0, h.places.size() - 1); }
    private boolean hasSlate(int s) { return in(s, 0, h.slates.size() - 1); }
    private boolean hasCaller(int c) { return in(c, 0, h.callers.size() - 1); }
    private boolean hasCry(int c, int k) { return hasCaller(c) && in(k, 0, h.cries.get(c).size() - 1); }
    int way(int w, int what) { return in(w, 0, h.ways.size() - 1) && in(what, 0, 3) ? ok(h.ways.get(w)[what]) : fail(1); }
    int slate(int s) { return hasSlate(s) ? ok(h.slateAt.get(s)) : fail(1); }
    int caller(int c, int what) {
        if (!hasCaller(c) || !in(what, 0, 1)) return fail(1);
        return ok(what == 0 ? h.callerAt.get(c) : h.cries.get(c).size());
    }
    int cry(int c, int k, int i) {
        if (!hasCry(c, k) || i < 0) return fail(1);
        int[] x = h.cries.get(c).get(k);
        return i < x.length ? ok(x[i]) : fail(6);
    }
    int call(int c, int what) {
        if (!in(c, 0, h.calls.size() - 1) || !in(what, 0, 2)) return fail(1);
        Call k = h.calls.get(c);
        return ok(what == 0 ? k.caller : what == 1 ? k.cry : k.beat);
    }

    // ---- what is done
    int say(int c, int k, int b) {
        if (!hasCry(c, k) || !in(b, 0, 20)) return fail(1);
        if (h.calls.size() == 8) return fail(4);
        Call x = new Call(c, k, b);
        if (h.calls.contains(x)) return fail(7);
        h.calls.add(x);
        return ok(h.calls.size());
    }
    int hush(int c) { if (!in(c, 0, h.calls.size() - 1)) return fail(1); h.calls.remove(c); return ok(h.calls.size()); }
    int walk(int c, int p) {
        if (!hasCaller(c) || !place(p)) return fail(1);
        return h.callerAt.get(c) == p ? fail(7) : ok(h.callerAt.set(c, p));
    }
    int hang(int s, int p) {
        if (!hasSlate(s) || !place(p)) return fail(1);
        return h.slateAt.get(s) == p ? fail(7) : ok(h.slateAt.set(s, p));
    }
    boolean pave(int w, int l, int o) {
        if (!in(w, 0, h.ways.size() - 1) || !in(l, 1, 9) || !in(o, 0, 9)) return no(1);
        h.ways.get(w)[2] = l; h.ways.get(w)[3] = o;
        return yes();
    }
    int teach(int c, int x, int y, int z) {
        if (!hasCaller(c) || !in(x, 1, 99) || !in(y, 0, 99) || !in(z, 0, y == 0 ? 0 : 99)) return fail(1);
        if (h.cries.get(c).size() == 3) return fail(4);
        h.cries.get(c).add(y == 0 ? new int[] {x} : z == 0 ? new int[] {x, y} : new int[] {x, y, z});
        return ok(h.cries.get(c).size() - 1);
    }
    boolean rule(int o) { if (!in(o, 0, 16)) return no(1); h.odds = o; return yes(); }
    int record() { h.recorded = h.sums(h.calls); return ok(total(h.recorded)); }
    int scrawl(int s, int b, int v) {
        if (!hasSlate(s) || !in(b, 0, 90) || !in(v, 0, 999)) return fail(1);
        if (h.recorded == null) return fail(6);
        int old = h.recorded[s][b];
        h.recorded[s][b] = v;
        return ok(old);
    }

    // ---- what is HEARD
    int far(int p, int q) { return apart(p, q, 0); }
    int lost(int p, int q) { return apart(p, q, 1); }
    private int apart(int p, int q, int which) {
        if (!place(p) || !place(q)) return fail(1);
        int[] d = h.reach(p)[q];
        return d == null ? fail(6) : ok(d[which]);
    }
    private int[] row(int s) { return h.sums(h.calls)[s]; }
    int heard(int s, int b) { return hasSlate(s) && in(b, 0, 90) ? ok(row(s)[b]) : fail(1); }
    int from(int s, int b) {
        if (!hasSlate(s) || !in(b, 0, 90)) return fail(1);
        int set = 0;
        for (int i = 0; i < h.calls.size(); i++) if (h.sums(List.of(h.calls.get(i)))[s][b] > 0) set += 1 << i;
        return ok(set);
    }
    int first(int s) {
        if (!hasSlate(s)) return fail(1);
        int[] r = row(s);
        for (int b = 0; b < 91; b++) if (r[b] > 0) return ok(b);
        return fail(6);
    }
    int last(int s) {
        if (!hasSlate(s)) return fail(1);
        int[] r = row(s);
        for (int b = 90; b >= 0; b--) if (r[b] > 0) return ok(b);
        return fail(6);
    }
    int loudest(int s) {
        if (!hasSlate(s)) return fail(1);
        int[] r = row(s);
        int most = Arrays.stream(r).max().getAsInt();
        if (most == 0) return fail(6);
        for (int b = 0; ; b++) if (r[b] == most) return ok(b);
    }
    int all(int s) { return hasSlate(s) ? ok(Arrays.stream(row(s)).sum()) : fail(1); }
    int recorded(int s, int b) {
        if (!hasSlate(s) || !in(b, 0, 90)) return fail(1);
        return h.recorded == null ? fail(6) : ok(h.recorded[s][b]);
    }
    private int off(List<Call> said) {
        int[][] r = h.sums(said);
        int n = 0;
        for (int s = 0; s < 4; s++) for (int b = 0; b < 91; b++) if (r[s][b] != h.recorded[s][b]) n++;
        return n;
    }
    int differs() { return h.recorded == null ? fail(6) : ok(off(h.calls)); }
    int copyHeard(int s, int t, int b, int n) {
        if (!hasSlate(s) || !in(t, 0, 3) || !in(b, 0, 90) || !in(n, 0, 60) || b + n - 1 > 90) return fail(1);
        if (trays[t] == null) return fail(2);
        if (trays[t].length < n) return fail(3);
        int[] r = row(s);
        int sum = 0;
        for (int i = 0; i < n; i++) { trays[t][i] = cut(t, r[b + i]); sum += r[b + i]; }
        return ok(sum);
    }

    // ---- who said what
    private List<List<Call>> answersFor(int n) {
        List<Call> loud = h.loud();
        List<int[][]> each = new ArrayList<>();
        for (Call c : loud) each.add(h.sums(List.of(c)));
        List<List<Call>> found = new ArrayList<>();
        int[][] rest = new int[4][];
        for (int s = 0; s < 4; s++) rest[s] = h.recorded[s].clone();
        choose(n, 0, loud, each, rest, new ArrayList<>(), found);
        return found;
    }
    /** Every set, its CALLS in order, so long as no sum is too great: sets come in the order of FIRST. */
    private static void choose(int n, int from, List<Call> loud, List<int[][]> each, int[][] rest, List<Call> taken, List<List<Call>> found) {
        if (total(rest) == 0) found.add(new ArrayList<>(taken));
        if (taken.size() == n) return;
        for (int i = from; i < loud.size(); i++) {
            int[][] e = each.get(i), r = new int[4][91];
            boolean fits = true;
            for (int s = 0; s < 4; s++) for (int b = 0; b < 91; b++) { r[s][b] = rest[s][b] - e[s][b]; fits &= r[s][b] >= 0; }
            if (!fits) continue;
            taken.add(loud.get(i));
            choose(n, i + 1, loud, each, r, taken, found);
            taken.remove(taken.size() - 1);
        }
    }
    int answers(int n) {
        if (!in(n, 0, 4)) return fail(1);
        return h.recorded == null ? fail(6) : ok(answersFor(n).size());
    }
    int answerAt(int n, int k) {
        if (!in(n, 0, 4) || k < 0) return fail(1);
        if (h.recorded == null) return fail(6);
        List<List<Call>> l = answersFor(n);
        return l.isEmpty() || k >= l.get(0).size() ? fail(6) : ok(l.get(0).get(k).number());
    }
    int with(int n, int c, int k, int b) {
        if (!in(n, 0, 4) || !hasCry(c, k) || !in(b, 0, 20)) return fail(1);
        if (h.recorded == null) return fail(6);
        return ok((int) answersFor(n).stream().filter(a -> a.contains(new Call(c, k, b))).count());
    }
    int fewest() {
        if (h.recorded == null) return fail(6);
        List<List<Call>> l = answersFor(4);
        return l.isEmpty() ? fail(6) : ok(l.stream().mapToInt(List::size).min().getAsInt());
    }
    private int leastOff; private List<Call> slipped;
    private void slipsFor(int n) {
        List<Call> loud = h.loud();
        List<int[][]> each = new ArrayList<>();
        for (Call c : loud) each.add(h.sums(List.of(c)));
        leastOff = off(List.of()); slipped = List.of();
        for (int i = 0; i < loud.size() && n > 0; i++) {
            weigh(List.of(loud.get(i)), each.get(i), null);
            for (int j = i + 1; j < loud.size() && n > 1; j++) weigh(List.of(loud.get(i), loud.get(j)), each.get(i), each.get(j));
        }
    }
    private void weigh(List<Call> set, int[][] x, int[][] y) {
        int o = 0;
        for (int s = 0; s < h.slates.size(); s++)
            for (int b = 0; b < 80; b++)
                if (x[s][b] + (y == null ? 0 : y[s][b]) != h.recorded[s][b]) o++;
        for (int s = 0; s < 4; s++) for (int b = 80; b < 91; b++) if (h.recorded[s][b] != 0) o++;
        if (o < leastOff) { leastOff = o; slipped = set; }
    }
    int slips(int n) {
        if (!in(n, 0, 2)) return fail(1);
        if (h.recorded == null) return fail(6);
        slipsFor(n);
        return ok(leastOff);
    }
    int slipsAt(int n, int k) {
        if (!in(n, 0, 2) || k < 0) return fail(1);
        if (h.recorded == null) return fail(6);
        slipsFor(n);
        return k < slipped.size() ? ok(slipped.get(k).number()) : fail(6);
    }

    // ---- what was changed, what can't be parted
    private List<int[]> movedList() {
        List<int[]> l = new ArrayList<>();
        for (int w = 0; w < h.ways.size(); w++) {
            int[] way = h.ways.get(w), old = way.clone();
            for (int a = 1; a <= 9; a++)
                for (int o = 0; o <= 9; o++) {
                    way[2] = a; way[3] = o;
                    if ((a != old[2] || o != old[3]) && off(h.calls) == 0) l.add(new int[] {w, a, o});
                }
            way[2] = old[2]; way[3] = old[3];
        }
        return l;
    }
    int moved() { return h.recorded == null ? fail(6) : ok(movedList().size()); }
    int movedAt(int k, int what) {
        if (k < 0 || !in(what, 0, 2)) return fail(1);
        if (h.recorded == null) return fail(6);
        List<int[]> l = movedList();
        return k < l.size() ? ok(l.get(k)[what]) : fail(6);
    }
    /** What is HEARD AT a PLACE of a CRY said so many BEATS later, on a long line of BEATS. */
    private int[] line(int c, int k, int p, int later) {
        int[] r = new int[300];
        int[] d = h.reach(h.callerAt.get(c))[p];
        int[] x = h.cries.get(c).get(k);
        if (d != null) for (int i = 0; i < x.length; i++) r[100 + later + i + d[0]] = Math.max(0, x[i] - d[1]);
        return r;
    }
    private Integer alikeBy(int c, int k, int o, int i, int set) {
        for (int size = 0; size <= 20; size++)
            for (int sign = 1; sign >= -1; sign -= 2) {
                boolean same = true;
                for (int p = 0; p < h.places.size() && same; p++)
                    if ((set >> p & 1) == 1) same = Arrays.equals(line(c, k, p, 0), line(o, i, p, sign * size));
                if (same) return sign * size;
            }
        return null;
    }
    int alike(int c, int k, int o, int i) {
        if (!hasCry(c, k) || !hasCry(o, i) || c == o && k == i) return fail(1);
        int set = 0;
        for (int p : h.slateAt) set |= 1 << p;
        Integer later = alikeBy(c, k, o, i, set);
        return later == null ? fail(6) : ok(later);
    }
    private boolean partsBy(int set) {
        for (int c = 0; c < h.callers.size(); c++)
            for (int k = 0; k < h.cries.get(c).size(); k++)
                for (int o = c; o < h.callers.size(); o++)
                    for (int i = o == c ? k + 1 : 0; i < h.cries.get(o).size(); i++)
                        if (alikeBy(c, k, o, i, set) != null) return false;
        return true;
    }
    int parts(int set) { return in(set, 0, (1 << h.places.size()) - 1) ? ok(partsBy(set) ? 1 : 0) : fail(1); }
    private Integer hangs() {
        Integer best = null;
        for (int s = 0; s < 1 << h.places.size(); s++)
            if ((best == null || Integer.bitCount(s) < Integer.bitCount(best)) && partsBy(s)) best = s;
        return best;
    }
    int hanging() { Integer s = hangs(); return s == null ? fail(6) : ok(Integer.bitCount(s)); }
    int hangingSet() { Integer s = hangs(); return s == null ? fail(6) : ok(s); }

    // ---- odds
    private void tell(long t, long b) {
        long g = java.math.BigInteger.valueOf(t).gcd(java.math.BigInteger.valueOf(b)).longValue();
        top = t / g; bottom = b / g;
    }
    boolean chance(int s, int b, int k) {
        if (!hasSlate(s) || !in(b, 0, 90) || !in(k, 0, 999)) return no(1);
        int n = h.calls.size();
        long t = 0;
        for (int set = 0; set < 1 << n; set++) {
            long w = 1;
            List<Call> l = new ArrayList<>();
            for (int i = 0; i < n; i++) {
                boolean said = (set >> i & 1) == 1;
                w *= said ? 16 - h.odds : h.odds;
                if (said) l.add(h.calls.get(i));
            }
            if (h.sums(l)[s][b] >= k) t += w;
        }
        tell(t, 1L << 4 * n);
        return yes();
    }
    boolean quiet(int s) {
        if (!hasSlate(s)) return no(1);
        long t = 1, b = 1;
        for (Call c : h.calls) if (Arrays.stream(h.sums(List.of(c))[s]).sum() > 0) { t *= h.odds; b *= 16; }
        tell(t, b);
        return yes();
    }

    // ---- MORNINGS
    private static final class Stop extends RuntimeException { Stop() { super(null, null, false, false); } }
    private int seed, done;
    private int draw(int n) { seed = (seed * 3203 + 11437) % 65536; return seed / 8 % n; }
    private boolean holds(Step s) {
        if (s.test.equals("at")) return h.callerAt.get(s.a) == s.b;
        int v = s.test.equals("calls") ? h.calls.size() : row(s.a)[s.b];
        return s.sign.equals("<") ? v < s.c : s.sign.equals(">") ? v > s.c : v == s.c;
    }
    private void run(List<Step> l, int[] out) {
        for (Step s : l) {
            if (done == 300) { out[4] = 1; throw new Stop(); }
            done++;
            int keep = status;
            switch (s.word) {
                case "stop" -> throw new Stop();
                case "when" -> { if (holds(s)) run(s.body, out); }
                case "loop" -> { for (int i = 0; i < s.c; i++) run(s.body, out); }
                case "record" -> record();
                case "hush" -> { if (hush(h.calls.size() - 1) >= 0) out[2]++; else out[0]++; }
                case "walk" -> { if (walk(s.a, s.b) >= 0) out[3]++; else out[0]++; }
                case "say" -> { if (say(s.a, s.b, s.c) >= 0) out[1]++; else out[0]++; }
                default -> {
                    if (h.callers.isEmpty()) { out[0]++; break; }
                    int c = draw(h.callers.size()), k = draw(3), b = draw(21);
                    if (say(c, k, b) >= 0) out[1]++; else out[0]++;
                }
            }
            status = keep;
        }
    }
    private int[] liveBy(int sd) {
        int[] out = new int[5];
        seed = sd; done = 0;
        try { run(h.mornings, out); } catch (Stop e) { /* the MORNINGS are over */ }
        return out;
    }
    int live(int sd) {
        if (!in(sd, 0, 9999)) return fail(1);
        if (h.mornings == null) return fail(6);
        lived = liveBy(sd);
        return ok(done);
    }
    int lived(int what) {
        if (!in(what, 0, 4)) return fail(1);
        return lived == null ? fail(6) : ok(lived[what]);
    }
    boolean mean(int sd, int many) {
        if (!in(sd, 0, 9999) || !in(many, 1, 20) || sd + many - 1 > 9999) return no(1);
        if (h.mornings == null) return no(6);
        State was = h;
        long t = 0;
        for (int i = 0; i < many; i++) { h = was.copy(); liveBy(sd + i); t += total(h.sums(h.calls)); }
        h = was;
        tell(t, many);
        return yes();
    }

    // ---- MARKS
    int mark() { if (marks.size() == 3) return fail(4); marks.add(h.copy()); return ok(marks.size()); }
    int undo() { if (marks.isEmpty()) return fail(6); h = marks.remove(marks.size() - 1); return ok(marks.size()); }
}
