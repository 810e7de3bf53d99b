import java.util.ArrayDeque;
import java.util.ArrayList;
import java.util.Comparator;
import java.util.Deque;
import java.util.List;
import java.util.NoSuchElementException;
import java.util.TreeSet;
import java.util.function.Predicate;
import java.util.regex.Matcher;
import java.util.regex.Pattern;
import java.util.stream.IntStream;

/**
 * The document once more, with the Java library and no care for speed or room: what SpeechTiers
 * answers is held against it. Each edit is tried on a copy, and the laws are looked at on the result.
 */
final class Oracle {
    private static final List<String> KINDS = List.of("free", "cut", "in", "points");

    static final class Mark {
        int from;
        int to;
        String label;

        Mark(int from, int to, String label) {
            this.from = from;
            this.to = to;
            this.label = label;
        }

        boolean hasInside(int t) {
            return from < t && t < to;
        }

        boolean in(Mark m) {
            return m.from <= from && to <= m.to;
        }

        int letters() {
            return Check.letters(label);
        }
    }

    static final class Tier {
        String name;
        String kind;
        int parent;
        List<Mark> marks = new ArrayList<>();

        boolean is(String k) {
            return kind.equals(k);
        }

        void sort() {
            marks.sort(Comparator.comparingInt(m -> m.from));
        }

        TreeSet<Integer> times() {
            TreeSet<Integer> times = new TreeSet<>();
            marks.forEach(m -> {
                times.add(m.from);
                times.add(m.to);
            });
            return times;
        }
    }

    static final class World {
        List<Tier> tiers = new ArrayList<>();

        World copy() {
            World w = new World();
            for (Tier t : tiers) {
                Tier u = new Tier();
                u.name = t.name;
                u.kind = t.kind;
                u.parent = t.parent;
                t.marks.forEach(m -> u.marks.add(new Mark(m.from, m.to, m.label)));
                w.tiers.add(u);
            }
            return w;
        }

        int marks() {
            return tiers.stream().mapToInt(t -> t.marks.size()).sum();
        }

        Tier named(String name) {
            return tiers.stream().filter(t -> t.name.equals(name)).findFirst().orElse(null);
        }

        boolean below(int t, int above) {
            int p = tiers.get(t).parent;
            return p != -1 && (p == above || below(p, above));
        }

        int root(int t) {
            int p = tiers.get(t).parent;
            return p == -1 ? t : root(p);
        }

        int depth(int t) {
            int p = tiers.get(t).parent;
            return p == -1 ? 0 : 1 + depth(p);
        }

        TreeSet<Integer> stops(int root) {
            TreeSet<Integer> stops = new TreeSet<>();
            for (int t = 0; t < tiers.size(); t++) {
                if (root(t) == root) {
                    stops.addAll(tiers.get(t).times());
                }
            }
            return stops;
        }

        int parentMark(int t, Mark m) {
            int p = tiers.get(t).parent;
            if (p == -1) {
                return -1;
            }
            List<Mark> above = tiers.get(p).marks;
            return IntStream.range(0, above.size()).filter(i -> m.in(above.get(i))).findFirst().orElse(-1);
        }

        int ends(int root, int time) {
            int ends = 0;
            for (int t = 0; t < tiers.size(); t++) {
                for (Mark m : tiers.get(t).marks) {
                    if (root(t) == root) {
                        ends += m.from == time ? 1 : 0;
                        ends += !tiers.get(t).is("points") && m.to == time ? 1 : 0;
                    }
                }
            }
            return ends;
        }

        boolean lawful() {
            for (int t = 0; t < tiers.size(); t++) {
                if (!lawful(t)) {
                    return false;
                }
            }
            return true;
        }

        boolean full() {
            return tiers.stream().anyMatch(t -> t.marks.size() > 40);
        }

        private boolean lawful(int t) {
            Tier tier = tiers.get(t);
            List<Mark> marks = tier.marks;
            for (int m = 0; m < marks.size(); m++) {
                Mark mark = marks.get(m);
                boolean isPoint = tier.is("points");
                if (mark.from < 0 || mark.to > 999 || (isPoint ? mark.from != mark.to : mark.from >= mark.to)) {
                    return false;
                }
                if (m > 0 && (isPoint ? marks.get(m - 1).from >= mark.from : marks.get(m - 1).to > mark.from)) {
                    return false;
                }
                if (tier.parent != -1 && parentMark(t, mark) == -1) {
                    return false;
                }
            }
            if (tier.is("cut")) {
                for (Mark whole : tiers.get(tier.parent).marks) {
                    int covered = marks.stream().filter(m -> m.in(whole)).mapToInt(m -> m.to - m.from).sum();
                    if (covered != whole.to - whole.from) {
                        return false;
                    }
                }
            }
            return true;
        }

        void put(int t, int from, int to, String label) {
            tiers.get(t).marks.add(new Mark(from, to, label));
            tiers.get(t).sort();
            for (int c = 0; c < tiers.size(); c++) {
                if (tiers.get(c).is("cut") && tiers.get(c).parent == t) {
                    put(c, from, to, "");
                }
            }
        }

        int index(int t, Predicate<Mark> test) {
            List<Mark> marks = tiers.get(t).marks;
            return IntStream.range(0, marks.size()).filter(m -> test.test(marks.get(m))).findFirst().orElse(-1);
        }

        int at(int t, int time) {
            return index(t, m -> m.from == time || m.hasInside(time));
        }

        /** Whether no mark of "in" below stands in the way of a split. */
        boolean splittable(int t, int time) {
            return IntStream.range(0, tiers.size())
                    .noneMatch(b -> below(b, t) && tiers.get(b).is("in") && index(b, m -> m.hasInside(time)) != -1);
        }

        void split(int t, int time) {
            for (int b = 0; b < tiers.size(); b++) {
                Tier tier = tiers.get(b);
                if (b == t || below(b, t) && tier.is("cut")) {
                    int m = index(b, x -> x.hasInside(time));
                    if (m != -1) {
                        Mark first = tier.marks.get(m);
                        tier.marks.add(m + 1, new Mark(time, first.to, first.label));
                        first.to = time;
                    }
                }
            }
        }

        boolean sameParent(int t, int m) {
            List<Mark> marks = tiers.get(t).marks;
            return parentMark(t, marks.get(m)) == parentMark(t, marks.get(m + 1));
        }
    }

    /** A text's fault. */
    private static final class Fault extends Exception {
        private static final long serialVersionUID = 1;
        final int reason;
        final int place;

        Fault(int reason, int place) {
            this.reason = reason;
            this.place = place;
        }
    }

    private World now = new World();
    private World other = null;
    private final Deque<World> past = new ArrayDeque<>();
    private final StringBuilder tape = new StringBuilder();
    private int faultPlace = -1;
    private final int[] refused = new int[3];

    long call(String name, int... a) {
        try {
            return answer(name, a);
        } catch (NoSuchElementException e) {
            refused[0]++;
            throw e;
        } catch (IllegalArgumentException e) {
            refused[1]++;
            throw e;
        } catch (IllegalStateException e) {
            refused[2]++;
            throw e;
        }
    }

    private long answer(String name, int[] a) {
        switch (name) {
            case "feed": return feed(a);
            case "text": return text(a[0]);
            case "fault": return faultPlace;
            case "put": return put(a[0], a[1], a[2]);
            case "point": return point(a[0], a[1]);
            case "take": return take(a[0], a[1]);
            case "split": return split(a[0], a[1], a[2]);
            case "join": return join(a[0], a[1]);
            case "move": return move(a[0], a[1], a[2]);
            case "silence": return silence(a[0], a[1]);
            case "label": return label(a[0], a[1], a[2]);
            case "adopt": return adopt(a[0]);
            case "snap": return snap(a[0], a[1]);
            case "undo": return undo();
            case "keep": other = now.copy(); return now.marks();
            case "told": return told(a[0]);
            case "tier": return tier(a[0], a[1]);
            case "mark": return mark(a[0], a[1], a[2]);
            case "at": need(a[0]); time(a[1]); return now.at(a[0], a[1]);
            case "over": return over(a[0], a[1], a[2], a[3]);
            case "within": return within(a[0], a[1], a[2], a[3]);
            case "find": return find(a[0], a[1], a[2]);
            case "together": return together(a[0], a[1], a[2], a[3]);
            case "longest": return longest(a[0], a[1], a[2]);
            case "gaps": return gaps(a[0], a[1]);
            case "stop": return stop(a[0], a[1]);
            case "room": return room(a[0], a[1], a[2]);
            case "agree": return agree(a[0], a[1]);
            case "same": return same(a[0], a[1], a[2]);
            case "print": return print();
            case "status": return a[0] >= 0 && a[0] < 3 ? refused[a[0]] : -1;
            default: throw new AssertionError(name);
        }
    }

    // ---- refusals

    private void need(int t) {
        if (t < 0 || t >= now.tiers.size()) {
            throw new NoSuchElementException();
        }
    }

    private void need(int t, int m) {
        need(t);
        if (m < 0 || m >= now.tiers.get(t).marks.size()) {
            throw new NoSuchElementException();
        }
    }

    private static void range(int v, int least, int greatest) {
        if (v < least || v > greatest) {
            throw new IllegalArgumentException();
        }
    }

    private static void time(int t) {
        range(t, 0, 999);
    }

    private void become(World next, boolean allowed) {
        if (!allowed || !next.lawful() || next.full()) {
            throw new IllegalStateException();
        }
        past.push(now);
        if (past.size() > 12) {
            past.removeLast();
        }
        now = next;
    }

    // ---- the text

    private long feed(int[] a) {
        if (tape.length() > 380) {
            return -1;
        }
        for (int n : a) {
            for (int s = 24; s >= 0; s -= 8) {
                tape.append((char) (n >> s & 255));
            }
        }
        return tape.length();
    }

    private long text(int n) {
        range(n, 0, tape.length());
        String text = tape.substring(0, n);
        tape.setLength(0);
        try {
            now = read(text);
            past.clear();
            faultPlace = -1;
            return now.marks();
        } catch (Fault f) {
            faultPlace = f.place;
            return f.reason - 10;
        }
    }

    private static final Pattern TOKEN = Pattern.compile(" *([a-z]+|[0-9]+|[^ ]|$)", Pattern.DOTALL);

    private List<String> words;
    private List<Integer> places;
    private int next;

    private World read(String text) throws Fault {
        words = new ArrayList<>();
        places = new ArrayList<>();
        Matcher m = TOKEN.matcher(text);
        int from = 0;
        while (m.find(from) && !m.group(1).isEmpty()) {
            words.add(m.group(1));
            places.add(m.start(1));
            from = m.end();
        }
        words.add("");
        places.add(text.length());
        next = 0;
        World w = new World();
        while (!words.get(next).isEmpty()) {
            line(w);
            if (!words.get(next).equals(";")) {
                throw new Fault(1, places.get(next));
            }
            next++;
        }
        return w;
    }

    private String word(int most) throws Fault {
        if (!words.get(next).matches("[a-z]{1," + most + "}")) {
            throw new Fault(1, places.get(next));
        }
        return words.get(next++);
    }

    private int number() throws Fault {
        if (!words.get(next).matches("[0-9]+")) {
            throw new Fault(1, places.get(next));
        }
        String digits = words.get(next).replaceFirst("^0+(?=.)", "");
        if (digits.length() > 3) {
            throw new Fault(2, places.get(next));
        }
        next++;
        return Integer.parseInt(digits);
    }

    private int known(World w) throws Fault {
        int place = places.get(next);
        Tier t = w.named(word(6));
        if (t == null) {
            throw new Fault(5, place);
        }
        return w.tiers.indexOf(t);
    }

    private boolean hasWord() {
        return words.get(next).matches("[a-z]+");
    }

    private void line(World w) throws Fault {
        String verb = words.get(next);
        if (!verb.matches("tier|mark|point|split|label")) {
            throw new Fault(1, places.get(next));
        }
        if (verb.equals("tier")) {
            tierLine(w);
            return;
        }
        next++;
        int place = places.get(next);
        int t = known(w);
        Tier tier = w.tiers.get(t);
        int from = number();
        int to = from;
        if (verb.equals("mark")) {
            int toPlace = places.get(next);
            to = number();
            if (to <= from) {
                throw new Fault(2, toPlace);
            }
        }
        boolean allowed;
        World before = w.copy();
        switch (verb) {
            case "mark":
                allowed = tier.is("free") || tier.is("in");
                if (allowed) {
                    w.put(t, from, to, "");
                }
                break;
            case "point":
                allowed = tier.is("points");
                tier.marks.add(new Mark(from, from, ""));
                tier.sort();
                break;
            case "split":
                int at = from;
                allowed = !tier.is("points") && w.index(t, m -> m.hasInside(at)) != -1 && w.splittable(t, at);
                w.split(t, at);
                break;
            default:
                allowed = w.at(t, from) != -1;
        }
        if (!allowed || !w.lawful()) {
            throw new Fault(6, place);
        }
        if (w.full() && !before.full()) {
            throw new Fault(3, place);
        }
        if (hasWord() || verb.equals("label")) {
            String label = word(4);
            tier.marks.get(w.at(t, from)).label = label;
        }
    }

    private void tierLine(World w) throws Fault {
        if (w.tiers.size() == 6) {
            throw new Fault(3, places.get(next));
        }
        next++;
        int place = places.get(next);
        Tier tier = new Tier();
        tier.name = word(6);
        if (w.named(tier.name) != null) {
            throw new Fault(4, place);
        }
        tier.kind = words.get(next);
        tier.parent = -1;
        if (!KINDS.contains(tier.kind)) {
            throw new Fault(1, places.get(next));
        }
        next++;
        if (tier.is("cut") || tier.is("in") || tier.is("points") && hasWord()) {
            int parentPlace = places.get(next);
            tier.parent = known(w);
            if (w.tiers.get(tier.parent).is("points")) {
                throw new Fault(5, parentPlace);
            }
            if (tier.is("cut")) {
                w.tiers.get(tier.parent).marks.forEach(m -> tier.marks.add(new Mark(m.from, m.to, "")));
            }
        }
        w.tiers.add(tier);
    }

    // ---- the edits

    private long put(int t, int from, int to) {
        need(t);
        time(from);
        time(to);
        range(to, from + 1, 999);
        Tier tier = now.tiers.get(t);
        World next = now.copy();
        next.put(t, from, to, "");
        become(next, tier.is("free") || tier.is("in"));
        return now.index(t, m -> m.from == from);
    }

    private long point(int t, int time) {
        need(t);
        time(time);
        World next = now.copy();
        next.tiers.get(t).marks.add(new Mark(time, time, ""));
        next.tiers.get(t).sort();
        become(next, now.tiers.get(t).is("points"));
        return now.index(t, m -> m.from == time);
    }

    private long take(int t, int mark) {
        need(t, mark);
        World next = now.copy();
        Tier tier = next.tiers.get(t);
        Mark gone = tier.marks.remove(mark);
        boolean allowed = true;
        if (tier.is("cut")) {
            Mark whole = next.tiers.get(tier.parent).marks.get(now.parentMark(t, gone));
            Mark ahead = mark > 0 ? tier.marks.get(mark - 1) : null;
            Mark behind = mark < tier.marks.size() ? tier.marks.get(mark) : null;
            if (ahead != null && ahead.in(whole)) {
                ahead.to = gone.to;
            } else if (behind != null && behind.in(whole)) {
                behind.from = gone.from;
            } else {
                allowed = false;
            }
        } else if (!tier.is("points")) {
            for (int b = 0; b < next.tiers.size(); b++) {
                Tier low = next.tiers.get(b);
                int under = b;
                if (next.below(b, t)) {
                    if (low.is("points")) {
                        low.marks.removeIf(m -> next.parentMark(under, m) == -1);
                    } else {
                        low.marks.removeIf(m -> m.in(gone));
                    }
                }
            }
        }
        int before = now.marks();
        become(next, allowed);
        return before - now.marks();
    }

    private long split(int t, int mark, int time) {
        need(t, mark);
        Tier tier = now.tiers.get(t);
        if (tier.is("points")) {
            throw new IllegalStateException();
        }
        range(time, tier.marks.get(mark).from + 1, tier.marks.get(mark).to - 1);
        World next = now.copy();
        next.split(t, time);
        int before = now.marks();
        become(next, now.splittable(t, time));
        return now.marks() - before;
    }

    private long join(int t, int mark) {
        need(t, mark);
        World next = now.copy();
        Tier tier = next.tiers.get(t);
        if (tier.is("points") || mark + 1 == tier.marks.size()) {
            throw new IllegalStateException();
        }
        boolean allowed = tier.marks.get(mark).to == tier.marks.get(mark + 1).from && now.sameParent(t, mark);
        tier.marks.get(mark).to = tier.marks.remove(mark + 1).to;
        become(next, allowed);
        return now.tiers.get(t).marks.get(mark).to;
    }

    private World moved(World w, int root, int stop, int time) {
        World next = w.copy();
        for (int t = 0; t < next.tiers.size(); t++) {
            for (Mark m : next.tiers.get(t).marks) {
                if (next.root(t) == root) {
                    m.from = m.from == stop ? time : m.from;
                    m.to = m.to == stop ? time : m.to;
                }
            }
        }
        return next;
    }

    private static boolean movable(TreeSet<Integer> stops, int stop, int time) {
        Integer ahead = stops.lower(stop);
        Integer behind = stops.higher(stop);
        return (ahead == null || time > ahead) && (behind == null || time < behind);
    }

    private long move(int t, int stop, int time) {
        need(t);
        int root = now.root(t);
        if (!now.stops(root).contains(stop)) {
            throw new NoSuchElementException();
        }
        time(time);
        int ends = now.ends(root, stop);
        become(moved(now, root, stop, time), movable(now.stops(root), stop, time));
        return ends;
    }

    private long silence(int time, int length) {
        time(time);
        range(length, 1, 999);
        int count = 0;
        for (int t = 0; t < now.tiers.size(); t++) {
            if (now.tiers.get(t).parent == -1) {
                count += now.stops(t).tailSet(time, false).size();
            }
        }
        World next = now.copy();
        for (Tier tier : next.tiers) {
            for (Mark m : tier.marks) {
                m.from += m.from > time ? length : 0;
                m.to += m.to > time ? length : 0;
            }
        }
        become(next, true);
        return count;
    }

    private long label(int t, int mark, int letters) {
        need(t, mark);
        String label = letters >= 0 ? Check.word(letters) : "?";
        if (!label.matches("[a-z]{0,4}")) {
            throw new IllegalArgumentException();
        }
        World next = now.copy();
        next.tiers.get(t).marks.get(mark).label = label;
        int was = now.tiers.get(t).marks.get(mark).letters();
        become(next, true);
        return was;
    }

    private Tier twin(int t) {
        return other == null ? null : other.named(now.tiers.get(t).name);
    }

    private long adopt(int t) {
        need(t);
        if (twin(t) == null) {
            return -1;
        }
        World next = now.copy();
        int count = 0;
        for (Mark m : next.tiers.get(t).marks) {
            for (Mark o : twin(t).marks) {
                if (m.label.isEmpty() && !o.label.isEmpty() && m.from == o.from && m.to == o.to) {
                    m.label = o.label;
                    count++;
                }
            }
        }
        if (count > 0) {
            become(next, true);
        }
        return count;
    }

    private long snap(int t, int apart) {
        need(t);
        range(apart, 1, 999);
        if (twin(t) == null) {
            return -1;
        }
        TreeSet<Integer> theirs = twin(t).times();
        World next = now;
        int root = now.root(t);
        int count = 0;
        for (int time : now.tiers.get(t).times()) {
            Integer goal = theirs.stream()
                    .min(Comparator.comparingInt((Integer o) -> Math.abs(o - time)).thenComparing(o -> o)).orElse(null);
            if (goal != null && goal != time && Math.abs(goal - time) <= apart
                    && movable(next.stops(root), time, goal)) {
                next = moved(next, root, time, goal);
                count++;
            }
        }
        if (count > 0) {
            become(next, true);
        }
        return count;
    }

    private long undo() {
        if (past.isEmpty()) {
            return -1;
        }
        now = past.pop();
        return past.size();
    }

    // ---- the questions

    private long told(int what) {
        range(what, 0, 5);
        int families = (int) now.tiers.stream().filter(t -> t.parent == -1).count();
        int[] all = {now.tiers.size(), now.marks(), families, past.size(), tape.length(),
            other == null ? -1 : other.marks()};
        return all[what];
    }

    private long tier(int t, int what) {
        need(t);
        range(what, 0, 8);
        Tier tier = now.tiers.get(t);
        int length = tier.marks.stream().mapToInt(m -> m.to - m.from).sum();
        int children = (int) now.tiers.stream().filter(u -> u.parent == t).count();
        int name = 0;
        for (int i = 0; i < 6; i++) {
            name = name * 32 + (i < tier.name.length() ? tier.name.charAt(i) - 96 : 0);
        }
        int[] all = {KINDS.indexOf(tier.kind), tier.parent, tier.marks.size(), now.depth(t), now.root(t), length,
            children, now.stops(now.root(t)).size(), name};
        return all[what];
    }

    private long mark(int t, int mark, int what) {
        need(t, mark);
        range(what, 0, 6);
        Mark m = now.tiers.get(t).marks.get(mark);
        int held = 0;
        for (int c = 0; c < now.tiers.size(); c++) {
            if (now.tiers.get(c).parent == t) {
                int child = c;
                held += now.tiers.get(c).marks.stream().filter(x -> now.parentMark(child, x) == mark).count();
            }
        }
        int root = now.root(t);
        int[] all = {m.from, m.to, m.letters(), now.parentMark(t, m), held, now.ends(root, m.from), now.ends(root, m.to)};
        return all[what];
    }

    private long over(int t, int from, int to, int what) {
        need(t);
        time(from);
        time(to);
        range(to, from + 1, 999);
        range(what, 0, 2);
        boolean points = now.tiers.get(t).is("points");
        Predicate<Mark> over = points ? m -> from <= m.from && m.from < to : m -> m.from < to && m.to > from;
        int many = (int) now.tiers.get(t).marks.stream().filter(over).count();
        int time = 0;
        for (int u = from; u < to; u++) {
            int unit = u;
            time += now.tiers.get(t).marks.stream().anyMatch(m -> m.from <= unit && unit < m.to) ? 1 : 0;
        }
        return what == 0 ? many : what == 1 ? now.index(t, over) : time;
    }

    private long within(int t, int mark, int o, int what) {
        need(t, mark);
        need(o);
        range(what, 0, 2);
        Mark whole = now.tiers.get(t).marks.get(mark);
        List<Mark> all = now.tiers.get(o).marks.stream().filter(m -> m.in(whole)).toList();
        int time = all.stream().mapToInt(m -> m.to - m.from).sum();
        return what == 0 ? all.size() : what == 1 ? now.index(o, m -> m.in(whole)) : time;
    }

    private List<Mark> labelled(int t, int letters) {
        return now.tiers.get(t).marks.stream().filter(m -> m.letters() == letters).toList();
    }

    private long find(int t, int letters, int k) {
        need(t);
        List<Mark> all = labelled(t, letters);
        return k < 0 || k >= all.size() ? -1 : now.tiers.get(t).marks.indexOf(all.get(k));
    }

    private long together(int t, int letters, int o, int otherLetters) {
        need(t);
        need(o);
        return IntStream.range(0, 1000).filter(u -> has(labelled(t, letters), u) && has(labelled(o, otherLetters), u))
                .count();
    }

    private static boolean has(List<Mark> marks, int unit) {
        return unitMark(marks, unit) != null;
    }

    private static Mark unitMark(List<Mark> marks, int unit) {
        return marks.stream().filter(m -> m.from <= unit && unit < m.to).findFirst().orElse(null);
    }

    private long longest(int t, int letters, int what) {
        need(t);
        range(what, 0, 3);
        List<Mark> all = labelled(t, letters);
        int length = all.stream().mapToInt(m -> m.to - m.from).max().orElse(0);
        int first = now.index(t, m -> m.letters() == letters && m.to - m.from == length);
        int sum = all.stream().mapToInt(m -> m.to - m.from).sum();
        return what == 0 ? first : what == 1 ? length : what == 2 ? all.size() : sum;
    }

    private long gaps(int t, int what) {
        need(t);
        range(what, 0, 3);
        List<Mark> marks = now.tiers.get(t).marks;
        int many = 0;
        int first = -1;
        int length = 0;
        int sum = 0;
        for (int m = 0; m + 1 < marks.size() && !now.tiers.get(t).is("points"); m++) {
            int gap = marks.get(m + 1).from - marks.get(m).to;
            if (gap != 0 && now.sameParent(t, m)) {
                many++;
                sum += gap;
                if (gap > length) {
                    first = m;
                    length = gap;
                }
            }
        }
        return what == 0 ? many : what == 1 ? first : what == 2 ? length : sum;
    }

    private long stop(int t, int k) {
        need(t);
        List<Integer> stops = new ArrayList<>(now.stops(now.root(t)));
        return k < 0 || k >= stops.size() ? -1 : stops.get(k);
    }

    private long room(int t, int stop, int what) {
        need(t);
        TreeSet<Integer> stops = now.stops(now.root(t));
        if (!stops.contains(stop)) {
            throw new NoSuchElementException();
        }
        range(what, 0, 1);
        IntStream times = IntStream.range(0, 1000).filter(u -> movable(stops, stop, u));
        return what == 0 ? times.min().getAsInt() : times.max().getAsInt();
    }

    private long agree(int t, int what) {
        need(t);
        range(what, 0, 3);
        if (twin(t) == null) {
            return -1;
        }
        int[] all = new int[4];
        for (int u = 0; u < 1000; u++) {
            Mark a = unitMark(now.tiers.get(t).marks, u);
            Mark b = unitMark(twin(t).marks, u);
            if (a != null && b != null) {
                all[a.label.equals(b.label) ? 0 : 1]++;
            } else if (a != null || b != null) {
                all[a != null ? 2 : 3]++;
            }
        }
        return all[what];
    }

    private long same(int t, int apart, int what) {
        need(t);
        range(apart, 0, 999);
        range(what, 0, 1);
        if (twin(t) == null) {
            return -1;
        }
        List<Integer> a = new ArrayList<>(now.tiers.get(t).times());
        List<Integer> b = new ArrayList<>(twin(t).times());
        // by how much all are apart at the least, for so many pairs of the first i and j
        int far = 1_000_000;
        int[][][] least = new int[a.size() + 1][b.size() + 1][Math.min(a.size(), b.size()) + 1];
        for (int i = 0; i <= a.size(); i++) {
            for (int j = 0; j <= b.size(); j++) {
                for (int p = 1; p < least[i][j].length; p++) {
                    least[i][j][p] = far;
                    if (i > 0 && j > 0) {
                        int d = Math.abs(a.get(i - 1) - b.get(j - 1));
                        int with = d <= apart ? least[i - 1][j - 1][p - 1] + d : far;
                        least[i][j][p] = Math.min(with, Math.min(least[i - 1][j][p], least[i][j - 1][p]));
                    }
                }
            }
        }
        int[] last = least[a.size()][b.size()];
        int pairs = IntStream.range(0, last.length).filter(p -> last[p] < far).max().getAsInt();
        return what == 0 ? pairs : last[pairs];
    }

    private long print() {
        long sum = 0;
        for (Tier t : now.tiers) {
            for (Mark m : t.marks) {
                for (int part : new int[] {m.from, m.to, m.letters()}) {
                    sum = sum * 31 + part;
                }
            }
            sum *= 31;
        }
        return sum;
    }
}
