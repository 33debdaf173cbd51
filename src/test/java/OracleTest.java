import java.util.ArrayList;
import java.util.List;
import java.util.Random;

/** Long runs of calls, by draws from fixed seeds, answered by MurmurHall and by the Oracle alike. */
public final class OracleTest {
    private static final String LETTERS = "abcdefgh";
    private final Random random;
    private final MurmurHall x = new MurmurHall();
    private final Oracle o = new Oracle();
    private final List<String> log = new ArrayList<>();
    private boolean wrong;
    private int heavy;

    private OracleTest(long seed) { random = new Random(seed); }

    public static void main(String[] args) {
        int runs = args.length > 0 ? Integer.parseInt(args[0]) : 1500;
        long first = args.length > 1 ? Long.parseLong(args[1]) : 1;
        int bad = 0;
        for (int run = 0; run < runs && bad < 3; run++) {
            OracleTest t = new OracleTest(first + run);
            t.run();
            if (t.wrong) {
                bad++;
                System.out.println("run " + (first + run) + ":");
                t.log.subList(Math.max(0, t.log.size() - 60), t.log.size()).forEach(System.out::println);
            }
        }
        System.out.println(bad == 0 ? runs + " runs agree" : "runs disagree");
        if (bad != 0) System.exit(1);
    }

    private int in(int lo, int hi) { return lo + random.nextInt(hi - lo + 1); }
    private boolean rarely() { return random.nextInt(25) == 0; }
    /** Mostly from 0 to below n, at times beside. */
    private int index(int n) { return rarely() || n <= 0 ? in(-1, n + 1) : random.nextInt(n); }
    private int near(int lo, int hi) { return rarely() ? in(lo - 2, hi + 2) : in(lo, hi); }

    private void same(String call, long got, long due) {
        log.add(call + " = " + got);
        if (got != due) { wrong = true; log.add("  due is " + due); }
        if (x.status() != o.status) { wrong = true; log.add("  status " + x.status() + ", due is " + o.status); }
        if (x.top() != o.top || x.bottom() != o.bottom) {
            wrong = true;
            log.add("  fraction " + x.top() + " by " + x.bottom() + ", due is " + o.top + " by " + o.bottom);
        }
    }
    private void same(String call, boolean got, boolean due) { same(call, got ? 1 : 0, due ? 1 : 0); }

    private void run() {
        for (int i = 0; i < 3 && !wrong; i++) {
            newHall();
            for (int k = in(20, 100); k > 0 && !wrong; k--) step();
        }
    }

    private void put(String text, boolean isHall) {
        int n = text.length();
        StringBuilder padded = new StringBuilder(text);
        while (padded.length() % 20 != 0) padded.append((char) in(0, 255));
        for (int i = 0; i < padded.length(); i += 20) {
            int[] v = new int[5];
            for (int k = 0; k < 20; k++) v[k / 4] = v[k / 4] << 8 | padded.charAt(i + k);
            same("feed", x.feed(v[0], v[1], v[2], v[3], v[4]), o.feed(v[0], v[1], v[2], v[3], v[4]));
        }
        if (rarely()) n = in(-1, padded.length() + 1);
        log.add("text [" + text + "]");
        if (isHall) same("hall " + n, x.hall(n), o.hall(n));
        else same("mornings " + n, x.mornings(n), o.mornings(n));
        same("fault(0)", x.fault(0), o.fault(0));
        same("fault(1)", x.fault(1), o.fault(1));
        same("fault(2)", x.fault(2), o.fault(2));
    }

    private String number(int lo, int hi) {
        int v = random.nextInt(60) == 0 ? in(Math.max(0, lo - 2), hi + 2) : in(lo, hi);
        return random.nextInt(40) == 0 ? "0" + v : "" + v;
    }

    private void newHall() {
        StringBuilder t = new StringBuilder();
        List<String> parts = new ArrayList<>();
        int places = in(1, 7), slates = in(0, 4), callers = in(0, 5), high = random.nextBoolean() ? 99 : 12;
        if (random.nextBoolean()) parts.add("odds " + number(0, 16));
        for (int i = 0; i < places; i++) parts.add("place p" + LETTERS.charAt(i));
        for (int i = in(0, 10); i > 0; i--) {
            int a = random.nextInt(places), b = random.nextInt(places);
            if (a == b && random.nextInt(30) > 0) continue;
            int most = random.nextBoolean() ? 9 : 3;
            parts.add("way p" + LETTERS.charAt(a) + " p" + LETTERS.charAt(b) + " long " + number(1, most)
                + (random.nextBoolean() ? " loses " + number(0, most) : ""));
        }
        for (int i = 0; i < slates; i++) parts.add("slate s" + LETTERS.charAt(i) + " at p" + LETTERS.charAt(random.nextInt(places)));
        List<int[]> cries = new ArrayList<>();
        for (int i = 0; i < callers; i++) {
            parts.add("caller c" + LETTERS.charAt(i) + " at p" + LETTERS.charAt(random.nextInt(places)));
            for (int k = in(0, 3), n = 0; n < k; n++) {
                cries.add(new int[] {i, n});
                StringBuilder c = new StringBuilder("cry c" + LETTERS.charAt(i));
                for (int m = in(1, 3); m > 0; m--) c.append(' ').append(number(1, high));
                parts.add(c.toString());
            }
        }
        for (int i = cries.isEmpty() ? 0 : in(0, 6); i > 0; i--) {
            int[] c = cries.get(random.nextInt(cries.size()));
            parts.add("call c" + LETTERS.charAt(c[0]) + " " + c[1] + " at " + number(0, 20));
        }
        for (String p : parts) t.append(p).append(random.nextInt(3) == 0 ? " ;\n" : ";");
        put(mutate(t.toString(), 900), true);
    }

    private void newMornings() {
        StringBuilder t = new StringBuilder();
        int depth = 0;
        for (int i = in(0, 12); i > 0; i--) {
            String caller = "c" + LETTERS.charAt(random.nextInt(Math.max(1, o.h.callers.size())));
            String place = "p" + LETTERS.charAt(random.nextInt(Math.max(1, o.h.places.size())));
            String slate = "s" + LETTERS.charAt(random.nextInt(Math.max(1, o.h.slates.size())));
            String sign = "<>=".charAt(random.nextInt(3)) + "";
            int limit = rarely() ? 5 : 3;
            switch (in(0, 12)) {
                case 0, 1 -> t.append("say ").append(caller).append(' ').append(number(0, 2)).append(' ').append(number(0, 20)).append(';');
                case 2 -> t.append("hush;");
                case 3 -> t.append("walk ").append(caller).append(' ').append(place).append(';');
                case 4 -> t.append("record;");
                case 5, 6, 7 -> t.append("any;");
                case 8 -> { if (random.nextInt(4) == 0) t.append("stop;"); }
                case 9 -> { if (depth < limit) { t.append("when heard ").append(slate).append(' ').append(number(0, 40)).append(sign).append(number(0, 20)).append(';'); depth++; } }
                case 10 -> { if (depth < limit) { t.append(random.nextBoolean() ? "when calls" + sign + number(0, 8) + ";" : "when at " + caller + " " + place + ";"); depth++; } }
                case 11 -> { if (depth < limit) { t.append("loop ").append(number(1, random.nextBoolean() ? 99 : 5)).append(';'); depth++; } }
                default -> { if (depth > 0) { t.append("end;"); depth--; } }
            }
            if (random.nextInt(4) == 0) t.append(' ');
        }
        for (; depth > 0; depth--) t.append("end;");
        put(mutate(t.toString(), 300), false);
    }

    private String mutate(String text, int most) {
        StringBuilder b = new StringBuilder(text);
        if (random.nextInt(4) == 0 && b.length() > 0) {
            int at = random.nextInt(b.length());
            String[] odd = {"at", "end", " 5 ", "12345", "0", ";", "<", "A", "\u00e9", "abcdefghi", " ", "when", "odds ", "call", "any;"};
            switch (in(0, 3)) {
                case 0 -> b.deleteCharAt(at);
                case 1 -> b.insert(at, odd[random.nextInt(odd.length)]);
                case 2 -> b.setLength(at);
                default -> { int semi = b.indexOf(";", at); b.insert(semi < 0 ? at : semi + 1, odd[random.nextInt(odd.length)]); }
            }
        }
        if (b.length() > most) b.setLength(most);
        return b.toString();
    }

    private void step() {
        int places = o.h.places.size(), ways = o.h.ways.size(), slates = o.h.slates.size(), callers = o.h.callers.size();
        int calls = o.h.calls.size();
        int p = index(places), q = index(places), w = index(ways), s = index(slates), c = index(callers), k = index(2), d = index(callers), e = index(3);
        int b = near(0, 20), beat = rarely() ? near(0, 90) : in(0, 40), t = near(0, 3), n = near(0, 4), m = near(0, 2);
        switch (in(0, 62)) {
            case 0 -> { int z = near(0, 3), y = near(0, 60); same("tray " + t + " " + z + " " + y, x.tray(t, z, y), o.tray(t, z, y)); }
            case 1 -> { int z = near(0, 30); long v = random.nextLong() >> in(0, 63); same("write " + t + " " + z + " " + v, x.write(t, z, v), o.write(t, z, v)); }
            case 2 -> { int z = near(0, 30); same("read " + t + " " + z, x.read(t, z), o.read(t, z)); }
            case 3 -> { int f = near(0, 3), y = near(0, 20), z = near(0, 20), v = near(0, 20); same("pour " + f + " " + y + " " + t + " " + z + " " + v, x.pour(f, y, t, z, v), o.pour(f, y, t, z, v)); }
            case 4, 5, 6 -> newMornings();
            case 7, 8 -> { int z = near(0, 7); same("told " + z, x.told(z), o.told(z)); }
            case 9 -> { int z = near(0, 3); same("way " + w + " " + z, x.way(w, z), o.way(w, z)); }
            case 10 -> same("slate " + s, x.slate(s), o.slate(s));
            case 11 -> { int z = near(0, 1); same("caller " + c + " " + z, x.caller(c, z), o.caller(c, z)); }
            case 12 -> { int z = near(0, 2); same("cry " + c + " " + k + " " + z, x.cry(c, k, z), o.cry(c, k, z)); }
            case 13 -> { int y = index(calls), z = near(0, 2); same("call " + y + " " + z, x.call(y, z), o.call(y, z)); }
            case 14, 15, 16, 17 -> same("say " + c + " " + k + " " + b, x.say(c, k, b), o.say(c, k, b));
            case 18, 19 -> { int y = index(calls); same("hush " + y, x.hush(y), o.hush(y)); }
            case 20, 21 -> same("walk " + c + " " + p, x.walk(c, p), o.walk(c, p));
            case 22, 23 -> same("hang " + s + " " + p, x.hang(s, p), o.hang(s, p));
            case 24, 25 -> { int y = near(1, 9), z = near(0, 9); same("pave " + w + " " + y + " " + z, x.pave(w, y, z), o.pave(w, y, z)); }
            case 26, 27 -> { int u = near(1, 99), y = near(0, 9), z = in(0, 1) * near(0, 99); same("teach " + c + " " + u + " " + y + " " + z, x.teach(c, u, y, z), o.teach(c, u, y, z)); }
            case 28 -> { int z = near(0, 16); same("rule " + z, x.rule(z), o.rule(z)); }
            case 29, 30, 31 -> same("record", x.record(), o.record());
            case 32 -> { int z = in(0, 3) == 0 ? near(0, 999) : in(0, 9); same("scrawl " + s + " " + beat + " " + z, x.scrawl(s, beat, z), o.scrawl(s, beat, z)); }
            case 33 -> same("far " + p + " " + q, x.far(p, q), o.far(p, q));
            case 34 -> same("lost " + p + " " + q, x.lost(p, q), o.lost(p, q));
            case 35 -> same("heard " + s + " " + beat, x.heard(s, beat), o.heard(s, beat));
            case 36 -> same("from " + s + " " + beat, x.from(s, beat), o.from(s, beat));
            case 37 -> same("first " + s, x.first(s), o.first(s));
            case 38 -> same("last " + s, x.last(s), o.last(s));
            case 39 -> same("loudest " + s, x.loudest(s), o.loudest(s));
            case 40 -> same("all " + s, x.all(s), o.all(s));
            case 41 -> same("recorded " + s + " " + beat, x.recorded(s, beat), o.recorded(s, beat));
            case 42 -> same("differs", x.differs(), o.differs());
            case 43 -> { int z = near(0, 60); same("copyHeard " + s + " " + t + " " + beat + " " + z, x.copyHeard(s, t, beat, z), o.copyHeard(s, t, beat, z)); }
            case 44 -> same("answers " + n, x.answers(n), o.answers(n));
            case 45 -> { int z = near(0, 3); same("answerAt " + n + " " + z, x.answerAt(n, z), o.answerAt(n, z)); }
            case 46 -> same("with " + n + " " + c + " " + k + " " + b, x.with(n, c, k, b), o.with(n, c, k, b));
            case 47 -> same("fewest", x.fewest(), o.fewest());
            case 48 -> { if (heavy++ < 20) same("slips " + m, x.slips(m), o.slips(m)); }
            case 49 -> { int z = near(0, 1); if (heavy++ < 20) same("slipsAt " + m + " " + z, x.slipsAt(m, z), o.slipsAt(m, z)); }
            case 50 -> { if (heavy++ < 20) same("moved", x.moved(), o.moved()); }
            case 51 -> { int y = near(0, 200), z = near(0, 2); if (heavy++ < 20) same("movedAt " + y + " " + z, x.movedAt(y, z), o.movedAt(y, z)); }
            case 52, 53 -> same("alike " + c + " " + k + " " + d + " " + e, x.alike(c, k, d, e), o.alike(c, k, d, e));
            case 54 -> { int z = near(0, (1 << places) - 1); same("parts " + z, x.parts(z), o.parts(z)); }
            case 55 -> { if (heavy++ < 20) same("hanging", x.hanging(), o.hanging()); }
            case 56 -> { if (heavy++ < 20) same("hangingSet", x.hangingSet(), o.hangingSet()); }
            case 57 -> { int z = rarely() ? near(0, 999) : in(0, 60); same("chance " + s + " " + beat + " " + z, x.chance(s, beat, z), o.chance(s, beat, z)); }
            case 58 -> same("quiet " + s, x.quiet(s), o.quiet(s));
            case 59 -> {
                int z = near(0, 9999);
                same("live " + z, x.live(z), o.live(z));
                for (int i = -1; i <= 5; i++) same("lived " + i, x.lived(i), o.lived(i));
            }
            case 60 -> { int y = rarely() ? near(9980, 9999) : in(0, 9979), z = near(1, 20); same("mean " + y + " " + z, x.mean(y, z), o.mean(y, z)); }
            case 61 -> same("mark", x.mark(), o.mark());
            default -> same("undo", x.undo(), o.undo());
        }
    }
}
