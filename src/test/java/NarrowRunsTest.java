import java.util.ArrayList;
import java.util.List;
import java.util.Random;

/**
 * Runs by draws in narrow worlds, small and full of ties, where what is rare elsewhere is common: several ANSWERS, SLIPS
 * as good as others, CRIES that are ALIKE by BEATS, a 300th STEP. The test fails, too, if such outcomes were not met.
 */
public final class NarrowRunsTest {
    private static final int WORLDS = 9;
    private static final String NAMES = "abcdefg";
    private static final String[] PATTERNS = {"5", "5 5", "1 5", "1 1 5", "5 1", "5 1 1", "6", "2 6", "1 5 1", "5 6", "1 2"};
    private final Random random;
    private final Duel d = new Duel();

    private NarrowRunsTest(long seed) { random = new Random(seed); }

    public static void main(String[] args) {
        int runs = args.length > 0 ? Integer.parseInt(args[0]) : 150;
        long first = args.length > 1 ? Long.parseLong(args[1]) : 1;
        boolean fine = agree(runs, first);
        if (args.length > 2) System.out.println(Duel.census());
        if (fine) fine = notMet() == 0;
        System.out.println(fine ? runs + " runs in each world agree" : "broken");
        if (!fine) System.exit(1);
    }

    static boolean agree(int runs, long first) {
        for (int run = 0; run < runs; run++) {
            for (int world = 0; world < WORLDS; world++) {
                NarrowRunsTest t = new NarrowRunsTest(1000 * (first + run) + world);
                t.run(world);
                if (t.d.wrong()) {
                    t.d.tell("run " + (first + run) + ", world " + world);
                    return false;
                }
            }
        }
        return true;
    }

    private static int notMet() {
        return Duel.notMet(10, "answers: several", "answers: of unlike sizes", "answers: the FIRST is not the shortest", "with: in some of several",
            "fewest: below the FIRST", "slips: two CALLS mend more than one", "slips: as good as others", "slips: nothing mends",
            "alike: by 20", "alike: by -20", "alike: later", "alike: earlier", "alike: but for 21", "alike: neither is HEARD",
            "hanging: none", "hanging: 0", "hanging: 1", "hanging: 2", "hanging: 3", "moved: one", "moved: several", "moved: of two WAYS",
            "moved: all but its own", "lived: the 300th was the last", "lived: a 301st was left", "lived: by a stop", "lived: MISSED",
            "lived: struck", "lived: walked", "mean: a fraction", "chance: between", "chance: 0", "chance: 1", "quiet: between", "pour: over itself",
            "copyHeard: cut", "undo: another HALL", "undo: MORNINGS again", "undo: RECORDED again", "text: fault 1", "text: fault 2",
            "text: fault 3", "text: fault 4", "text: fault 5", "text: fault 6", "text: fault 7", "text: taken");
    }

    private int in(int lo, int hi) { return lo + random.nextInt(hi - lo + 1); }
    private boolean once(int in) { return random.nextInt(in) == 0; }
    private char name(int i) { return NAMES.charAt(i); }

    private void run(int world) {
        switch (world) {
            case 0, 1 -> answers();
            case 2 -> alike();
            case 3 -> farApart();
            case 4 -> moved();
            case 5 -> lives();
            case 6 -> odds();
            case 7 -> { trays(); marks(); }
            default -> { for (int i = 0; i < 60 && !d.wrong(); i++) text(); }
        }
    }

    /** PLACES a .. , WAYS between, SLATES sa .., CALLERS ca .. */
    private String world(int places, int ways, int mostLong, int mostLoss, int slates, int callers) {
        StringBuilder t = new StringBuilder();
        for (int i = 0; i < places; i++) t.append("place ").append(name(i)).append(';');
        for (int i = 0; i < ways && places > 1; i++) {
            int one = in(0, places - 1), other = (one + in(1, places - 1)) % places;
            t.append("way ").append(name(one)).append(' ').append(name(other)).append(" long ").append(in(1, mostLong));
            t.append(" loses ").append(in(0, mostLoss)).append(';');
        }
        for (int i = 0; i < slates; i++) t.append("slate s").append(name(i)).append(" at ").append(name(in(0, places - 1))).append(';');
        for (int i = 0; i < callers; i++) t.append("caller c").append(name(i)).append(" at ").append(name(in(0, places - 1))).append(';');
        return t.toString();
    }

    private String smallCries(int callers, int most, int high) {
        StringBuilder t = new StringBuilder();
        for (int i = 0; i < callers; i++) {
            for (int k = in(1, most); k > 0; k--) {
                t.append("cry c").append(name(i));
                for (int n = in(1, 3); n > 0; n--) t.append(' ').append(in(1, high));
                t.append(';');
            }
        }
        return t.toString();
    }

    private void sayAny(int many, int lastBeat) {
        for (int i = 0; i < many; i++) {
            int caller = in(0, Math.max(0, d.o.h.callers.size() - 1));
            d.ask("say", caller, in(0, 2), in(0, lastBeat));
        }
    }

    // ---- who said what

    private void answers() {
        int callers = in(1, 3);
        d.hall(world(in(1, 3), in(0, 3), 2, 1, in(1, 2), callers) + smallCries(callers, 2, 2));
        for (int day = 0; day < 3 && !d.wrong(); day++) {
            for (int i = d.o.h.calls.size(); i > 0; i--) d.ask("hush", 0);
            sayAny(in(0, 6), 2);
            d.ask("record");
            if (once(6)) d.ask("walk", in(0, callers - 1), in(0, 2));
            if (once(6)) d.ask("hang", 0, in(0, 2));
            for (int i = once(2) ? in(1, 3) : 0; i > 0; i--) d.ask("scrawl", in(0, d.o.h.slates.size() - 1), in(0, 6), in(0, 4));
            askAnswers(callers);
            askSlips();
        }
    }

    private void askAnswers(int callers) {
        long fewest = d.ask("fewest");
        for (int n = 0; n <= 4; n++) {
            long many = d.ask("answers", n);
            int size = 0;
            for (int k = 0; k <= 4; k++) if (d.ask("answerAt", n, k) >= 0) size++;
            Duel.metIf(many > 1, "answers: several");
            Duel.metIf(n == 4 && many > 1 && d.x.answers((int) fewest) < many, "answers: of unlike sizes");
            Duel.metIf(n == 4 && many > 1 && size > fewest, "answers: the FIRST is not the shortest");
            Duel.metIf(n == 4 && many > 1 && size > fewest, "fewest: below the FIRST");
            for (int caller = 0; caller < callers; caller++) {
                for (int cry = 0; cry < 2; cry++) {
                    for (int beat = 0; beat < 3; beat++) {
                        long with = d.ask("with", n, caller, cry, beat);
                        Duel.metIf(with > 0 && with < many, "with: in some of several");
                    }
                }
            }
        }
    }

    private void askSlips() {
        long[] least = new long[3];
        for (int n = 0; n <= 2; n++) {
            least[n] = d.ask("slips", n);
            for (int k = 0; k <= 2; k++) d.ask("slipsAt", n, k);
        }
        Duel.metIf(least[2] < least[1], "slips: two CALLS mend more than one");
        Duel.metIf(least[0] > 0 && least[2] == least[0], "slips: nothing mends");
        Duel.metIf(least[2] == least[1] && least[1] < least[0], "slips: as good as others");
    }

    // ---- what can't be parted

    private void alike() {
        int places = in(1, 4), callers = in(1, 4);
        d.hall(once(4) ? cutOff() : world(places, in(0, 4), once(2) ? 2 : 9, 2, in(0, 3), callers) + patterns(callers));
        places = d.o.h.places.size();
        callers = d.o.h.callers.size();
        for (int turn = 0; turn < 3 && !d.wrong(); turn++) {
            askAllPairs(callers);
            for (int set = 0; set < 1 << places; set++) d.ask("parts", set);
            long many = d.ask("hanging");
            Duel.met("hanging: " + (many < 0 ? "none" : "" + many));
            d.ask("hangingSet");
            d.ask("walk", in(0, callers - 1), in(0, places - 1));
            if (!d.o.h.ways.isEmpty()) d.ask("pave", in(0, d.o.h.ways.size() - 1), in(1, 9), in(0, 2));
            d.ask("hang", 0, in(0, places - 1));
        }
    }

    /** Three or four CALLERS, each in a PLACE without WAYS: only a SLATE in each parts all their CRIES. */
    private String cutOff() {
        int callers = in(3, 4);
        StringBuilder t = new StringBuilder(world(callers, 0, 1, 0, in(0, 3), 0));
        for (int i = 0; i < callers; i++) t.append("caller c").append(name(i)).append(" at ").append(name(i)).append(';');
        return t + patterns(callers);
    }

    private String patterns(int callers) {
        StringBuilder t = new StringBuilder();
        for (int i = 0; i < callers; i++) {
            for (int k = in(1, 3); k > 0; k--) t.append("cry c").append(name(i)).append(' ').append(PATTERNS[in(0, PATTERNS.length - 1)]).append(';');
        }
        return t.toString();
    }

    private void askAllPairs(int callers) {
        for (int one = 0; one < callers; one++) {
            for (int other = 0; other < callers; other++) {
                for (int cries = 0; cries < 9; cries++) {
                    long later = d.ask("alike", one, cries / 3, other, cries % 3);
                    if (d.status() != 0) continue;
                    Duel.metIf(later > 0, "alike: later");
                    Duel.metIf(later < 0, "alike: earlier");
                    Duel.metIf(Math.abs(later) == 20, "alike: by " + later);
                    Duel.metIf(later == 0 && d.o.h.slates.size() > 0 && isSilent(one, cries / 3), "alike: neither is HEARD");
                }
            }
        }
    }

    private boolean isSilent(int caller, int cry) { return Oracle.total(d.o.h.sums(List.of(new Oracle.Call(caller, cry, 0)))) == 0; }

    /** Two CALLERS, one beside the SLATE, one 17 to 23 BEATS from it. */
    private void farApart() {
        int far = in(17, 23), one = in(Math.max(1, far - 18), 9), two = in(Math.max(1, far - one - 9), Math.min(9, far - one - 1));
        int three = far - one - two;
        String both = PATTERNS[in(0, PATTERNS.length - 1)];
        d.hall("place a;place b;place c;place d;way a b long " + one + " loses " + (once(3) ? 1 : 0) + ";way b c long " + two + ";way d c long "
            + three + ";slate s at a;caller ca at a;caller cb at d;cry ca " + both + ";cry cb " + both + ";cry ca 1 5;cry cb 5;cry cb 1 1 5;");
        askAllPairs(2);
        for (int set = 0; set < 16; set++) d.ask("parts", set);
        Duel.metIf(far == 21, "alike: but for 21");
        d.ask("hanging");
        d.ask("hangingSet");
    }

    // ---- what was changed

    private void moved() {
        int callers = in(1, 2);
        d.hall(world(in(2, 4), in(1, 4), once(2) ? 3 : 9, 4, in(0, 2), callers) + smallCries(callers, 2, 6));
        for (int day = 0; day < 3 && !d.wrong(); day++) {
            sayAny(2, 9);
            d.ask("record");
            int way = in(0, d.o.h.ways.size() - 1);
            if (!once(3)) d.ask("pave", way, in(1, 9), in(0, 4));
            if (once(8)) d.ask("scrawl", 0, in(0, 12), 1);
            long many = d.ask("moved");
            Duel.metIf(many == 1, "moved: one");
            Duel.metIf(many > 1 && many < 89, "moved: several");
            Duel.metIf(many > 0 && many % 89 == 0, "moved: all but its own");
            long first = d.ask("movedAt", 0, 0), last = many > 0 ? d.ask("movedAt", many - 1, 0) : first;
            Duel.metIf(many > 0 && first != last, "moved: of two WAYS");
            for (int k : new int[] {0, 1, 2, (int) many / 2, (int) many - 2, (int) many - 1, (int) many, in(0, 300)}) {
                for (int what = 0; what < 3; what++) d.ask("movedAt", k, what);
            }
        }
    }

    // ---- MORNINGS

    private void lives() {
        int callers = in(0, 3);
        d.hall(world(in(1, 3), in(0, 3), 2, 1, in(1, 2), callers) + smallCries(callers, 3, 9));
        for (int turn = 0; turn < 3 && !d.wrong(); turn++) {
            String text = once(2) ? aimedAt300() : block(0, in(1, 12));
            if (text.length() > 300 || d.mornings(text) < 0) continue;
            for (int day = 0; day < 2 && !d.wrong(); day++) {
                d.ask("mean", in(0, 9980), once(2) ? in(1, 3) : in(4, 20));
                Duel.metIf(d.o.bottom > 1, "mean: a fraction");
                long done = d.ask("live", in(0, 9999));
                d.compareAll();
                Duel.metIf(done == 300 && d.o.lived[4] == 0, "lived: the 300th was the last");
                Duel.metIf(done == 300 && d.o.lived[4] == 1, "lived: a 301st was left");
                Duel.metIf(text.contains("stop") && done < d.o.h.morningsCount, "lived: by a stop");
                Duel.metIf(d.o.lived[0] > 0, "lived: MISSED");
                Duel.metIf(d.o.lived[2] > 0, "lived: struck");
                Duel.metIf(d.o.lived[3] > 0, "lived: walked");
            }
        }
    }

    /** So many turns of so many STEPS that 298 to 303 of them are come to, when, loop and what stands beside them counted. */
    private String aimedAt300() {
        int body = in(1, 9), turns = Math.min(99, 299 / (body + 2)), inner = 0;
        StringBuilder t = new StringBuilder("loop ").append(turns).append(';');
        for (int i = 0; i < body; i++) {
            if (once(4) && inner < 2) {
                t.append("when calls<9;");
                inner++;
            }
            t.append(plain());
        }
        int rest = in(298, 303) - 1 - turns * (body + inner);
        for (; inner > 0; inner--) t.append("end;");
        t.append("end;");
        if (rest > 15) {
            int more = in(1, 3);
            t.append("loop ").append(Math.max(1, Math.min(99, (rest - 1) / more))).append(';');
            for (int i = 0; i < more; i++) t.append(plain());
            t.append("end;");
            rest -= 1 + more * Math.max(1, Math.min(99, (rest - 1) / more));
        }
        for (; rest > 0 && rest < 15; rest--) t.append(plain());
        return t.toString();
    }

    private String plain() {
        switch (in(0, 3)) {
            case 0: return "hush;";
            case 1: return "record;";
            default: return "any;";
        }
    }

    private String caller() { return "c" + name(in(0, Math.max(0, d.o.h.callers.size() - 1))); }
    private String place() { return "" + name(in(0, d.o.h.places.size() - 1)); }
    private String sign() { return "" + "<>=".charAt(in(0, 2)); }

    private String block(int depth, int many) {
        StringBuilder t = new StringBuilder();
        boolean named = !d.o.h.callers.isEmpty();
        for (int i = 0; i < many; i++) {
            switch (in(0, 11)) {
                case 0, 1 -> t.append(named ? "say " + caller() + " " + in(0, 2) + " " + in(0, 4) + ";" : "any;");
                case 2 -> t.append("hush;");
                case 3 -> t.append(named ? "walk " + caller() + " " + place() + ";" : "record;");
                case 4 -> t.append(once(3) ? "stop;" : "record;");
                case 5, 6 -> t.append("any;");
                default -> { if (depth < 3) t.append(holding(named)).append(block(depth + 1, in(0, 4))).append("end;"); }
            }
        }
        return t.toString();
    }

    private String holding(boolean named) {
        switch (in(0, 3)) {
            case 0: return "loop " + in(1, once(3) ? 99 : 4) + ";";
            case 1: return "when heard sa " + in(0, 9) + sign() + in(0, 5) + ";";
            case 2: return named ? "when at " + caller() + " " + place() + ";" : "loop 2;";
            default: return "when calls" + sign() + in(0, 8) + ";";
        }
    }

    // ---- odds

    private void odds() {
        int callers = in(1, 4);
        d.hall(world(in(1, 4), in(0, 5), 2, 3, in(1, 3), callers) + smallCries(callers, 3, 5));
        for (int day = 0; day < 2 && !d.wrong(); day++) {
            sayAny(in(0, 9), 3);
            if (!once(3)) d.ask("rule", once(4) ? 16 * in(0, 1) : in(1, 15));
            for (int slate = 0; slate < d.o.h.slates.size(); slate++) {
                d.ask("quiet", slate);
                Duel.metIf(d.o.bottom > 1, "quiet: between");
                for (int beat = 0; beat < 8; beat++) askChance(slate, beat);
                for (String what : new String[] {"first", "last", "loudest"}) d.ask(what, slate);
            }
        }
    }

    private void askChance(int slate, int beat) {
        int sum = (int) d.ask("heard", slate, beat);
        d.ask("from", slate, beat);
        for (int k : new int[] {1, sum - 1, sum, sum + 1, in(0, sum)}) {
            if (d.ask("chance", slate, beat, k) == 0) continue;
            Duel.metIf(d.o.bottom > 1, "chance: between");
            Duel.metIf(d.o.top == 0, "chance: 0");
            Duel.metIf(k > 0 && d.o.top == d.o.bottom, "chance: 1");
        }
    }

    // ---- TRAYS

    private void trays() {
        d.hall("place a;slate s at a;caller ca at a;cry ca 99 98 40;cry ca 99 99;cry ca 90 1 1;");
        for (int i = 0; i < 6; i++) d.ask("say", 0, in(0, 2), in(0, 2));
        for (int tray = 0; tray < 4; tray++) d.ask("tray", tray, once(2) ? 0 : in(0, 3), once(4) ? 60 : in(0, 9));
        for (int i = 0; i < 25 && !d.wrong(); i++) {
            int tray = in(0, 3), other = once(2) ? tray : in(0, 3), many = in(0, 5), place = in(0, 6), at = in(0, 6);
            d.ask("write", tray, in(-1, 9), random.nextLong() >> in(0, 63));
            boolean poured = d.ask("pour", tray, place, other, at, many) == 1;
            Duel.metIf(poured && tray == other && many > Math.abs(place - at) && place != at, "pour: over itself");
            long together = d.ask("copyHeard", 0, tray, in(0, 4), in(0, 6));
            Duel.metIf(together > 127 && d.o.sorts[tray] == 0, "copyHeard: cut");
            if (once(6)) d.ask("tray", tray, in(0, 3), in(0, 9));
            d.compareAll();
        }
    }

    // ---- MARKS

    private void marks() {
        newDay();
        for (int i = 0; i < 40 && !d.wrong(); i++) {
            switch (in(0, 9)) {
                case 0, 1 -> d.ask("mark");
                case 2, 3 -> undo();
                case 4 -> newDay();
                case 5 -> d.mornings(block(0, 2));
                case 6 -> d.ask("record");
                case 7 -> { d.ask("live", in(0, 9999)); d.ask("rule", in(0, 16)); }
                case 8 -> { sayAny(2, 20); d.ask("hush", 0); d.ask("scrawl", 0, in(0, 90), in(0, 999)); }
                default -> { d.ask("teach", 0, in(1, 99), in(0, 99), 0); d.ask("walk", 0, 0); d.ask("hang", 0, in(0, 1)); d.ask("pave", 0, in(1, 9), in(0, 9)); }
            }
        }
    }

    private void newDay() {
        int callers = in(1, 3);
        d.hall(world(in(2, 4), in(1, 4), 9, 9, in(1, 3), callers) + smallCries(callers, 2, 99));
    }

    private void undo() {
        Oracle.State before = d.o.h;
        if (d.ask("undo") < 0) return;
        Duel.metIf(!before.places.equals(d.o.h.places) || !before.callers.equals(d.o.h.callers), "undo: another HALL");
        Duel.metIf(before.mornings == null && d.o.h.mornings != null, "undo: MORNINGS again");
        Duel.metIf(before.recorded == null && d.o.h.recorded != null, "undo: RECORDED again");
        d.compareAll();
        d.ask("mean", 7, 3);
    }

    // ---- texts, whole or with one or two TOKENS changed

    private void text() {
        boolean isHall = once(2);
        String whole = isHall ? fullHall() : fullMornings();
        List<String> tokens = new ArrayList<>(List.of(whole.trim().split(" ")));
        for (int i = in(0, 3); i > 0; i--) change(tokens);
        StringBuilder t = new StringBuilder();
        for (String token : tokens) t.append(token).append(once(12) ? "\n" : once(9) ? "  " : needsBlank(token) || once(2) ? " " : "");
        if (once(9)) t.setLength(in(0, t.length()));
        if (t.length() > (isHall ? 900 : 300)) t.setLength(isHall ? 900 : 300);
        long taken = isHall ? d.hall(t.toString()) : d.mornings(t.toString());
        Duel.met(taken < 0 ? "text: fault " + d.o.faultKind : "text: taken");
        if (isHall && taken >= 0) d.compareAll();
    }

    private static boolean needsBlank(String token) { return !";<>=".contains(token); }

    private void change(List<String> tokens) {
        String[] odd = {"at", "end", "5", "12345", "1234", "0", "00", ";", "<", "=", "A", "abcdefgh", "abcdefghi", "when", "odds", "call", "calls", "any",
            "a", "ca", "sa", "zz", "99", "100", "10", "21", "20", "17", "long", "loses", "\u00e9", "\t", "-", "loop", "place", "stop", "9999", "91"};
        String[] names = {"a", "b", "c", "g", "ca", "cb", "ce", "sa", "sb", "sd", "zz", "calls"};
        int at = in(0, tokens.size() - 1);
        String was = tokens.get(at);
        switch (in(0, 5)) {
            case 0 -> { if (tokens.size() > 1) tokens.remove(at); }
            case 1 -> tokens.add(at, odd[in(0, odd.length - 1)]);
            case 2 -> tokens.add(at, tokens.get(in(0, tokens.size() - 1)));
            case 3 -> tokens.set(at, odd[in(0, odd.length - 1)]);
            default -> {
                // another one of its sort, so that the FAULT is what it tells, not where it stands
                if (Character.isDigit(was.charAt(0))) tokens.set(at, "" + in(0, once(2) ? 101 : 22));
                else if (was.length() < 3 && needsBlank(was)) tokens.set(at, names[in(0, names.length - 1)]);
            }
        }
    }

    /** As many of each as there may be, or one fewer or more. */
    private String fullHall() {
        StringBuilder t = new StringBuilder();
        int places = 6 + spread(), ways = 9 + spread(), slates = 3 + spread(), callers = 4 + spread(), calls = 7 + spread();
        if (once(2)) t.append("odds ").append(in(0, 17)).append(" ; ");
        for (int i = 0; i < places; i++) t.append("place ").append("abcdefgh".charAt(i)).append(" ; ");
        for (int i = 0; i < ways; i++) {
            int one = in(0, 5);
            t.append("way ").append(name(one)).append(' ').append(name((one + in(1, 5)) % 6)).append(" long ").append(in(1, 9)).append(' ');
            if (once(3)) t.append("loses ").append(in(0, 9)).append(' ');
            t.append("; ");
        }
        for (int i = 0; i < slates; i++) t.append("slate s").append(name(i)).append(" at ").append(name(in(0, 5))).append(" ; ");
        for (int i = 0; i < callers; i++) t.append("caller c").append("abcdefgh".charAt(i)).append(" at ").append(name(in(0, 5))).append(" ; ");
        int cries = 0;
        for (int i = 0; i < 4; i++) {
            for (int k = i == 0 ? 2 + spread() : in(0, 2); k > 0; k--) {
                if (i == 0) cries++;
                t.append("cry c").append(name(i)).append(' ').append(in(1, 99)).append(' ');
                for (int n = in(0, 2); n > 0; n--) t.append(in(1, 99)).append(' ');
                t.append("; ");
            }
        }
        for (int i = 0; i < calls && cries > 0; i++) t.append("call ca ").append(in(0, Math.min(cries, 3) - 1)).append(" at ").append(in(0, 20)).append(" ; ");
        return t.toString();
    }

    private int spread() { return once(6) ? 2 : in(0, 1); }

    private String fullMornings() {
        if (d.o.h.callers.isEmpty() || d.o.h.slates.isEmpty()) d.hall("place a;place b;slate sa at a;caller ca at b;cry ca 5;");
        StringBuilder t = new StringBuilder();
        if (once(3)) {
            for (int i = in(28, 32); i > 0; i--) t.append(plain());
        } else {
            int depth = once(3) ? 4 : in(1, 3);
            for (int i = 0; i < depth; i++) t.append(holding(true)).append(block(3, in(0, 2)));
            for (int i = 0; i < depth; i++) t.append("end;").append(block(3, in(0, 1)));
        }
        return t.toString().replace(";", " ; ").replace("<", " < ").replace(">", " > ").replace("=", " = ").replaceAll(" +", " ");
    }
}
