import java.util.ArrayList;
import java.util.List;
import java.util.NoSuchElementException;
import java.util.Random;
import java.util.TreeSet;

/**
 * What must hold whatever the runs are, asked through the face alone and without the Oracle: the LAWS
 * behind each edit, what an edit may change, that a refusal changes nothing, that all can be taken
 * back, and how the answers of one state belong together.
 */
public final class LawsTest {
    private static final int RUNS = 1200;
    private static final int ACTS = 60;
    private static final int CUT = 1;
    private static final int POINTS = 3;
    private static final String[] TEXTS = {
        "tier a free;tier b cut a;tier c in b;tier d cut c;tier e points c;tier f points;",
        "tier a free;tier b in a;tier c cut b;tier d cut c;tier e in d;tier f points a;",
        "tier a free;tier b cut a;tier c cut b;tier d points b;tier e free;tier f in e;",
        "tier a points;tier b free;tier c points b;tier d in b;tier e points d;tier f cut b;",
        "tier a free;tier b cut a;tier c cut a;tier d in a;tier e in b;tier f points e;",
    };
    private static int acted = 0;
    private static int refused = 0;

    /** All marks of all tiers: {from, to, label} each. */
    private static final class State {
        final List<List<int[]>> tiers = new ArrayList<>();
        final List<Integer> kinds = new ArrayList<>();
        final List<Integer> parents = new ArrayList<>();

        State(SpeechTiers x) {
            for (int t = 0; t < x.told(0); t++) {
                List<int[]> marks = new ArrayList<>();
                for (int m = 0; m < x.tier(t, 2); m++) {
                    marks.add(new int[] {x.mark(t, m, 0), x.mark(t, m, 1), x.mark(t, m, 2)});
                }
                tiers.add(marks);
                kinds.add(x.tier(t, 0));
                parents.add(x.tier(t, 1));
            }
        }

        String words(int t) {
            StringBuilder words = new StringBuilder();
            for (int[] m : tiers.get(t)) {
                words.append(m[0]).append('-').append(m[1]).append(':').append(m[2]).append(' ');
            }
            return words.toString();
        }

        String words() {
            StringBuilder words = new StringBuilder();
            for (int t = 0; t < tiers.size(); t++) {
                words.append(words(t)).append('/');
            }
            return words.toString();
        }

        int count() {
            return tiers.stream().mapToInt(List::size).sum();
        }

        boolean isBelow(int t, int above) {
            for (int up = parents.get(t); up != SpeechTiers.NONE; up = parents.get(up)) {
                if (up == above) {
                    return true;
                }
            }
            return false;
        }

        boolean hasAround(int t, int from, int to) {
            return tiers.get(t).stream().anyMatch(m -> m[0] <= from && to <= m[1]);
        }
    }

    private final Random random;
    private final SpeechTiers x = new SpeechTiers();
    private String call = "text";

    private LawsTest(long seed) {
        random = new Random(seed);
    }

    public static void main(String[] args) {
        for (int seed = 1; seed <= RUNS; seed++) {
            new LawsTest(seed).run();
        }
        Check.due("enough was done: " + acted + " acts, " + refused + " refused", acted > 20_000 && refused > 5_000 ? 1 : 0, 1);
        Check.finish();
    }

    private void run() {
        String text = TEXTS[random.nextInt(TEXTS.length)];
        StringBuilder marks = new StringBuilder();
        char tier = text.startsWith("tier a points") ? 'b' : 'a';
        for (int at = random.nextInt(5); at < 160; at += 50 + random.nextInt(2) * 7) {
            marks.append("mark ").append(tier).append(' ').append(at).append(' ').append(at + 50).append(" k;");
        }
        due("text", Check.tell(x, text + marks) > 0);
        laws(new State(x));
        for (int i = 0; i < ACTS; i++) {
            act();
        }
        questions();
        besideTheOther();
    }

    private void due(String what, boolean holds) {
        Check.due(what + " behind " + call, holds ? 1 : 0, 1);
    }

    // ---- acts

    private void act() {
        State before = new State(x);
        int[] counts = {x.status(0), x.status(1), x.status(2)};
        int undoable = x.told(3);
        int verb = random.nextInt(8);
        int[] a = arguments(verb);
        int answer = 0;
        int reason = -1;
        try {
            answer = make(verb, a);
        } catch (NoSuchElementException e) {
            reason = 0;
        } catch (IllegalArgumentException e) {
            reason = 1;
        } catch (IllegalStateException e) {
            reason = 2;
        }
        State behind = new State(x);
        if (reason >= 0) {
            refused++;
            counts[reason]++;
            due("a refusal changes nothing", before.words().equals(behind.words()) && x.told(3) == undoable);
        } else {
            acted++;
            laws(behind);
            due("one more can be taken back", x.told(3) == Math.min(12, undoable + 1));
            takenBack(verb, a, answer, before, behind);
            changed(verb, a, answer, before, behind);
        }
        due("refusals", x.status(0) == counts[0] && x.status(1) == counts[1] && x.status(2) == counts[2]);
    }

    private int[] arguments(int verb) {
        int tier = random.nextInt(6);
        int marks = x.tier(tier, 2);
        int mark = marks == 0 ? random.nextInt(2) : random.nextInt(marks + (random.nextInt(9) == 0 ? 1 : 0));
        int time = random.nextInt(250);
        if (verb == 5) {
            return new int[] {tier, x.stop(tier, random.nextInt(1 + x.tier(tier, 7))), time};
        }
        if (verb == 6) {
            int least = x.tier(tier, 7) == 0 ? 1 : 998 - x.stop(tier, x.tier(tier, 7) - 1);
            int length = random.nextInt(9) == 0 ? least + random.nextInt(5) : 1 + random.nextInt(5);
            return new int[] {time, length, 0};
        }
        if (verb == 0) {
            return new int[] {tier, time, time + random.nextInt(20)};
        }
        if (verb == 1) {
            return new int[] {tier, time, 0};
        }
        return new int[] {tier, mark, verb == 7 ? random.nextInt(40) : time};
    }

    private int make(int verb, int[] a) {
        String name = new String[] {"put", "point", "take", "split", "join", "move", "silence", "label"}[verb];
        call = name + "(" + a[0] + ", " + a[1] + ", " + a[2] + ")";
        switch (verb) {
            case 0: return x.put(a[0], a[1], a[2]);
            case 1: return x.point(a[0], a[1]);
            case 2: return x.take(a[0], a[1]);
            case 3: return x.split(a[0], a[1], a[2]);
            case 4: return x.join(a[0], a[1]);
            case 5: return x.move(a[0], a[1], a[2]);
            case 6: return x.silence(a[0], a[1]);
            default: return x.label(a[0], a[1], a[2]);
        }
    }

    private void takenBack(int verb, int[] a, int answer, State before, State behind) {
        x.undo();
        due("undo", new State(x).words().equals(before.words()));
        due("the same answer once more", make(verb, a) == answer);
        due("the same marks once more", new State(x).words().equals(behind.words()));
    }

    // ---- the laws

    private void laws(State s) {
        for (int t = 0; t < s.tiers.size(); t++) {
            due("at most 40", s.tiers.get(t).size() <= 40);
            int last = -1;
            for (int[] m : s.tiers.get(t)) {
                boolean isPoint = s.kinds.get(t) == POINTS;
                due("0 to 999", m[0] >= 0 && m[1] <= 999);
                due("TO", isPoint ? m[1] == m[0] : m[1] > m[0]);
                due("order", isPoint ? m[0] > last : m[0] >= last);
                last = m[1];
                int parent = s.parents.get(t);
                due("lies in the PARENT", parent == SpeechTiers.NONE || s.hasAround(parent, m[0], m[1]));
            }
            if (s.kinds.get(t) == CUT) {
                makesUp(s, t);
            }
        }
    }

    /** In each mark of the parent pieces go from its first time to its last, without a gap. */
    private void makesUp(State s, int t) {
        for (int[] whole : s.tiers.get(s.parents.get(t))) {
            int at = whole[0];
            for (int[] m : s.tiers.get(t)) {
                at = m[0] == at && m[1] <= whole[1] ? m[1] : at;
            }
            due("CUT makes up the PARENT's", at == whole[1]);
        }
    }

    // ---- what an edit may change (the two states are used up by looking)

    private void changed(int verb, int[] a, int answer, State before, State behind) {
        int more = behind.count() - before.count();
        switch (verb) {
            case 0: put(a, answer, before, behind); break;
            case 1:
                due("POINT", more == 1 && behind.tiers.get(a[0]).get(answer)[0] == a[1]);
                othersStay(a[0], before, behind);
                break;
            case 2: taken(a, answer, before, behind); break;
            case 3: split(a, answer, before, behind); break;
            case 4:
                due("JOINED", more == -1 && behind.tiers.get(a[0]).get(a[1])[1] == answer);
                due("LABEL of the first", behind.tiers.get(a[0]).get(a[1])[2] == before.tiers.get(a[0]).get(a[1])[2]);
                othersStay(a[0], before, behind);
                break;
            case 5: due("MOVED: ends", shifted(a[0], t -> t == a[1] ? a[2] : t, before, behind) == answer || a[1] == a[2]); break;
            case 6: silence(a, answer, before, behind); break;
            default:
                due("LABEL", behind.tiers.get(a[0]).get(a[1])[2] == a[2] && before.tiers.get(a[0]).get(a[1])[2] == answer);
                othersStay(a[0], before, behind);
        }
    }

    private void othersStay(int tier, State before, State behind) {
        for (int t = 0; t < before.tiers.size(); t++) {
            due("TIER " + t + " stays", t == tier || before.words(t).equals(behind.words(t)));
        }
    }

    private void put(int[] a, int answer, State before, State behind) {
        int[] mark = behind.tiers.get(a[0]).get(answer);
        due("PUT", mark[0] == a[1] && mark[1] == a[2] && mark[2] == 0);
        List<Integer> come = new ArrayList<>(List.of(a[0]));
        for (int t = a[0] + 1; t < before.tiers.size(); t++) {
            if (before.kinds.get(t) == CUT && come.contains(before.parents.get(t))) {
                come.add(t);
            }
        }
        for (int t = 0; t < before.tiers.size(); t++) {
            List<int[]> rest = behind.tiers.get(t);
            if (come.contains(t)) {
                due("one more", rest.removeIf(m -> m[0] == a[1] && m[1] == a[2] && m[2] == 0));
            }
            due("the rest stays", before.words(t).equals(behind.words(t)));
        }
    }

    private void taken(int[] a, int answer, State before, State behind) {
        due("how many go", before.count() - behind.count() == answer);
        int[] gone = before.tiers.get(a[0]).get(a[1]);
        int kind = before.kinds.get(a[0]);
        if (kind == CUT || kind == POINTS) {
            due("one goes", answer == 1);
            othersStay(a[0], before, behind);
            return;
        }
        for (int t = 0; t < before.tiers.size(); t++) {
            int tier = t;
            boolean hangs = t == a[0] || before.isBelow(t, a[0]);
            if (hangs && before.kinds.get(t) == POINTS) {
                before.tiers.get(t).removeIf(m -> !behind.hasAround(behind.parents.get(tier), m[0], m[1]));
            } else if (hangs) {
                before.tiers.get(t).removeIf(m -> m[0] >= gone[0] && m[1] <= gone[1]);
            }
            due("what hangs on it goes alone", before.words(t).equals(behind.words(t)));
        }
    }

    private void split(int[] a, int answer, State before, State behind) {
        due("how many are more", behind.count() - before.count() == answer);
        for (int t = 0; t < before.tiers.size(); t++) {
            List<int[]> want = new ArrayList<>();
            boolean goesWithIt = t == a[0] || before.kinds.get(t) == CUT && before.isBelow(t, a[0]);
            for (int[] m : before.tiers.get(t)) {
                if (goesWithIt && m[0] < a[2] && a[2] < m[1]) {
                    want.add(new int[] {m[0], a[2], m[2]});
                    want.add(new int[] {a[2], m[1], m[2]});
                } else {
                    want.add(m);
                }
            }
            before.tiers.set(t, want);
            due("both with the LABEL", before.words(t).equals(behind.words(t)));
        }
    }

    private interface Shift {
        int of(int time);
    }

    /** How many ends and points of a family are elsewhere; all must be where the shift says. */
    private int shifted(int tier, Shift shift, State before, State behind) {
        int ends = 0;
        for (int t = 0; t < before.tiers.size(); t++) {
            boolean isFamily = x.tier(t, 4) == x.tier(tier, 4);
            for (int m = 0; m < before.tiers.get(t).size(); m++) {
                int[] was = before.tiers.get(t).get(m);
                int[] is = behind.tiers.get(t).get(m);
                int parts = before.kinds.get(t) == POINTS ? 1 : 2;
                for (int e = 0; e < parts; e++) {
                    due("MOVED", is[e] == (isFamily ? shift.of(was[e]) : was[e]));
                    ends += is[e] != was[e] ? 1 : 0;
                }
            }
        }
        return ends;
    }

    private void silence(int[] a, int answer, State before, State behind) {
        TreeSet<Integer> moved = new TreeSet<>();
        for (int t = 0; t < before.tiers.size(); t++) {
            for (int m = 0; m < before.tiers.get(t).size(); m++) {
                for (int e = 0; e < 2; e++) {
                    int was = before.tiers.get(t).get(m)[e];
                    due("SILENCE", behind.tiers.get(t).get(m)[e] == (was > a[0] ? was + a[1] : was));
                    if (was > a[0]) {
                        moved.add(1000 * x.tier(t, 4) + was);
                    }
                }
            }
        }
        due("STOPS moved", moved.size() == answer);
    }

    // ---- answers that belong together

    private void questions() {
        call = "the acts";
        State s = new State(x);
        String words = s.words();
        due("MARKS in all", x.told(1) == s.count());
        for (int t = 0; t < s.tiers.size(); t++) {
            overs(t);
            labels(t, s);
            stops(t, s);
            held(t, s);
        }
        due("asked, nothing stays changed", new State(x).words().equals(words));
    }

    private void overs(int t) {
        int middle = 1 + random.nextInt(998);
        due("TIME over all", x.over(t, 0, 999, 2) == x.tier(t, 5));
        due("TIME over both parts", x.over(t, 0, middle, 2) + x.over(t, middle, 999, 2) == x.tier(t, 5));
        int at = x.at(t, middle);
        due("at and over", x.over(t, middle, middle + 1, 1) == at);
    }

    private void labels(int t, State s) {
        TreeSet<Integer> all = new TreeSet<>();
        s.tiers.get(t).forEach(m -> all.add(m[2]));
        int many = 0;
        int time = 0;
        int twice = 0;
        for (int letters : all) {
            int k = x.longest(t, letters, 2);
            many += k;
            time += x.longest(t, letters, 3);
            due("the last one with a LABEL", x.find(t, letters, k - 1) >= 0 && x.find(t, letters, k) == -1);
            int longest = x.longest(t, letters, 0);
            due("the longest", x.mark(t, longest, 1) - x.mark(t, longest, 0) == x.longest(t, letters, 1));
            for (int other : all) {
                due("of one TIER", x.together(t, letters, t, other) == (other == letters ? x.longest(t, letters, 3) : 0));
            }
            int o = random.nextInt(6);
            twice += x.together(t, letters, o, 11) - x.together(o, 11, t, letters);
        }
        due("LABELS make up all MARKS", many == x.tier(t, 2) && time == x.tier(t, 5) && twice == 0);
    }

    private void stops(int t, State s) {
        TreeSet<Integer> times = new TreeSet<>();
        int ends = 0;
        for (int u = 0; u < s.tiers.size(); u++) {
            if (x.tier(u, 4) == x.tier(t, 4)) {
                s.tiers.get(u).forEach(m -> times.add(m[0]));
                s.tiers.get(u).forEach(m -> times.add(m[1]));
                ends += s.tiers.get(u).size() * (s.kinds.get(u) == POINTS ? 1 : 2);
            }
        }
        due("STOPS", x.tier(t, 7) == times.size() && x.stop(t, times.size()) == -1);
        int k = 0;
        int moved = 0;
        for (int time : times) {
            due("STOP " + k, x.stop(t, k) == time);
            moved += x.move(t, time, time);
            x.undo();
            k++;
        }
        due("ends at all STOPS", moved == ends);
        if (!times.isEmpty()) {
            rooms(t, x.stop(t, random.nextInt(times.size())));
        }
    }

    private void rooms(int t, int stop) {
        int least = x.room(t, stop, 0);
        int greatest = x.room(t, stop, 1);
        due("it can stay", least <= stop && stop <= greatest);
        for (int time : new int[] {least, greatest}) {
            due("MOVED to the edge of its room", x.move(t, stop, time) > 0);
            x.undo();
        }
        for (int time : new int[] {least - 1, greatest + 1}) {
            if (time < 0 || time > 999) {
                Check.argument("beyond all TIMES", () -> x.move(t, stop, time));
            } else {
                Check.state("beyond its room", () -> x.move(t, stop, time));
            }
        }
    }

    private void held(int t, State s) {
        int lying = 0;
        for (int m = 0; m < s.tiers.get(t).size(); m++) {
            lying += x.mark(t, m, 4);
            int parent = x.mark(t, m, 3);
            int above = s.parents.get(t);
            due("THE PARENT'S", (parent == -1) == (above == -1));
            due("lies there", parent == -1 || x.within(above, parent, t, 0) > 0);
            due("lies in itself", x.within(t, m, t, 0) == 1 && x.within(t, m, t, 1) == m);
        }
        int below = 0;
        for (int u = 0; u < s.tiers.size(); u++) {
            below += s.parents.get(u) == t ? s.tiers.get(u).size() : 0;
        }
        due("each MARK lies in one of the PARENT's", lying == below);
    }

    // ---- beside the other

    private void besideTheOther() {
        due("keep", x.keep() == x.told(1) && x.told(5) == x.told(1));
        for (int t = 0; t < 6; t++) {
            due("all agrees", x.agree(t, 0) == x.tier(t, 5) && x.agree(t, 1) + x.agree(t, 2) + x.agree(t, 3) == 0);
            due("none to adopt or snap", x.adopt(t) == 0 && x.snap(t, 999) == 0);
        }
        State other = new State(x);
        for (int i = 0; i < 12; i++) {
            act();
        }
        call = "acts and keep";
        State here = new State(x);
        for (int t = 0; t < 6; t++) {
            int both = x.agree(t, 0) + x.agree(t, 1);
            int time = other.tiers.get(t).stream().mapToInt(m -> m[1] - m[0]).sum();
            due("TIME here", both + x.agree(t, 2) == x.tier(t, 5));
            due("TIME there", both + x.agree(t, 3) == time);
            pairs(t, here, other);
        }
        snapped();
    }

    private void pairs(int t, State here, State other) {
        List<Integer> a = times(here, t);
        List<Integer> b = times(other, t);
        int pairs = 0;
        for (int apart = 0; apart < 12; apart++) {
            int now = x.same(t, apart, 0);
            due("more of them, the more apart", now >= pairs && now <= Math.min(a.size(), b.size()));
            due("not more apart", x.same(t, apart, 1) <= now * apart);
            pairs = now;
            if (a.size() + b.size() <= 14) {
                int[] best = bestPairs(a, b, 0, 0, apart);
                due("pairs by trial", now == best[0] && x.same(t, apart, 1) == best[1]);
            }
        }
    }

    private static List<Integer> times(State s, int t) {
        TreeSet<Integer> times = new TreeSet<>();
        s.tiers.get(t).forEach(m -> times.add(m[0]));
        s.tiers.get(t).forEach(m -> times.add(m[1]));
        return new ArrayList<>(times);
    }

    /** By trial of all: the most pairs of those from i and j on, and the least that they are apart. */
    private static int[] bestPairs(List<Integer> a, List<Integer> b, int i, int j, int apart) {
        if (i == a.size()) {
            return new int[2];
        }
        int[] best = bestPairs(a, b, i + 1, j, apart);
        for (int k = j; k < b.size(); k++) {
            int distance = Math.abs(a.get(i) - b.get(k));
            if (distance <= apart) {
                int[] rest = bestPairs(a, b, i + 1, k + 1, apart);
                int pairs = rest[0] + 1;
                int sum = rest[1] + distance;
                if (pairs > best[0] || pairs == best[0] && sum < best[1]) {
                    best = new int[] {pairs, sum};
                }
            }
        }
        return best;
    }

    private void snapped() {
        for (int t = 0; t < 6; t++) {
            int alike = x.same(t, 0, 0);
            String words = new State(x).words();
            int undoable = x.told(3);
            int moved = x.snap(t, 1 + random.nextInt(8));
            call = "snap " + t;
            laws(new State(x));
            due("each is one more that is the same", x.same(t, 0, 0) == alike + moved);
            due("no act, if 0", x.told(3) == (moved == 0 ? undoable : Math.min(12, undoable + 1)));
            if (moved > 0) {
                x.undo();
                due("snap taken back", new State(x).words().equals(words));
            }
        }
    }
}
