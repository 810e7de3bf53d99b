import java.nio.charset.StandardCharsets;
import java.util.Arrays;
import java.util.HashMap;
import java.util.Map;
import java.util.Random;
import java.util.TreeMap;

/** All promises: long runs of calls drawn by lot, each answer held against the Oracle's. */
public final class FuzzTest {
    private static final String[] EDITS = {"put", "put", "put", "point", "point", "take", "split", "split", "split",
        "join", "move", "move", "silence", "label", "label", "adopt", "snap", "undo", "keep"};
    // so that tiers come to their forty marks
    private static final String[] GROWTH = {"split", "split", "split", "split", "put", "point", "move", "label"};
    private static final String[] QUESTIONS = {"told", "tier", "mark", "at", "over", "within", "find", "together",
        "longest", "gaps", "stop", "room", "agree", "same", "print", "status", "fault"};
    private static final Map<String, Integer> ARGUMENTS = new HashMap<>();
    private static final Map<String, Integer> MOST_WHAT = Map.of("tier", 8, "mark", 6, "over", 2, "within", 2,
            "longest", 3, "gaps", 3, "room", 1, "agree", 3, "same", 1);

    static {
        String counts = "feed 5 text 1 fault 0 put 3 point 2 take 2 split 3 join 2 move 3 silence 2 label 3 adopt 1 "
                + "snap 2 undo 0 keep 0 told 1 tier 2 mark 3 at 2 over 4 within 4 find 3 together 4 longest 3 gaps 2 "
                + "stop 2 room 3 agree 2 same 3 print 0 status 1";
        String[] words = counts.split(" ");
        for (int i = 0; i < words.length; i += 2) {
            ARGUMENTS.put(words[i], Integer.parseInt(words[i + 1]));
        }
    }

    private final Random random;
    private final SpeechTiers x = new SpeechTiers();
    private final Oracle oracle = new Oracle();
    private final StringBuilder run = new StringBuilder();
    private static final Map<String, Integer> SEEN = new TreeMap<>();
    private static int calls = 0;

    private FuzzTest(long seed) {
        random = new Random(seed);
    }

    public static void main(String[] args) {
        int runs = args.length > 0 ? Integer.parseInt(args[0]) : 400;
        int first = args.length > 1 ? Integer.parseInt(args[1]) : 1;
        for (int seed = first; seed < first + runs; seed++) {
            FuzzTest test = new FuzzTest(seed);
            boolean asDue = seed % 4 == 0 ? test.texts() : test.edits(seed % 4 == 1 ? GROWTH : EDITS);
            if (!asDue) {
                Check.wrong("seed " + seed + ":" + test.run);
                break;
            }
        }
        Check.due("calls were made", calls > runs ? 1 : 0, 1);
        if (args.length > 0) {
            SEEN.forEach((k, v) -> System.out.println(k + " " + v));
        }
        System.out.println(calls + " calls");
        Check.finish();
    }

    private boolean texts() {
        for (int i = 0; i < 18; i++) {
            if (!tell(text()) || !call("fault") || !call("print") || !call("told", 0)) {
                return false;
            }
        }
        return true;
    }

    private boolean edits(String[] names) {
        int span = names == GROWTH ? 1000 : random.nextBoolean() ? 1000 : 30 + random.nextInt(100);
        if (!tell(base(span))) {
            return false;
        }
        for (int i = 0; i < 430; i++) {
            String name = random.nextInt(3) > 0
                    ? names[random.nextInt(names.length)]
                    : QUESTIONS[random.nextInt(QUESTIONS.length)];
            if (names == EDITS && random.nextInt(150) == 0) {
                if (!tell(base(span))) {
                    return false;
                }
            } else if (!call(name, arguments(name, span)) || !call("print")) {
                return false;
            }
        }
        return true;
    }

    // ---- texts

    private String base(int span) {
        StringBuilder text = new StringBuilder();
        int tiers = 1 + random.nextInt(6);
        for (int t = 0; t < tiers; t++) {
            int parent = t == 0 ? -1 : random.nextInt(t);
            int kind = t == 0 ? 0 : new int[] {0, 1, 1, 2, 2, 3}[random.nextInt(6)];
            text.append("tier ").append((char) ('a' + t)).append(new String[] {" free", " cut ", " in ", " points "}[kind]);
            text.append(kind == 0 || kind == 3 && random.nextBoolean() ? "" : "" + (char) ('a' + parent)).append(';');
        }
        int at = 0;
        while (at < span - 2 && text.length() < 300 && random.nextInt(8) > 0) {
            int from = at + random.nextInt(2) * random.nextInt(5);
            int to = Math.min(from + 1 + random.nextInt(span / 3), 999);
            if (from < to) {
                text.append("mark a ").append(from).append(' ').append(to).append(random.nextBoolean() ? " k;" : ";");
            }
            at = to;
        }
        return text.toString();
    }

    private String text() {
        StringBuilder text = new StringBuilder(random.nextInt(3) == 0 ? "" : base(40));
        int lines = random.nextInt(12);
        for (int i = 0; i < lines; i++) {
            text.append(textLine());
        }
        int flaws = random.nextInt(4) == 0 ? random.nextInt(3) : 0;
        for (int i = 0; i < flaws && text.length() > 0; i++) {
            int place = random.nextInt(text.length());
            char sign = "abz059 ;;  \t@`{/:A\u00e9\u0000".charAt(random.nextInt(20));
            switch (random.nextInt(4)) {
                case 0: text.setCharAt(place, sign); break;
                case 1: text.insert(place, sign); break;
                case 2: text.deleteCharAt(place); break;
                default: text.setLength(place);
            }
        }
        return text.length() > 400 ? text.substring(0, 400) : text.toString();
    }

    private String textLine() {
        String name = word(random.nextInt(30) == 0 ? 7 : 1, 7);
        String label = random.nextBoolean() ? "" : blank() + word(random.nextInt(15) == 0 ? 5 : 1 + random.nextInt(4), 3);
        switch (random.nextInt(9)) {
            case 0: return "tier " + name + " " + (random.nextInt(9) == 0 ? "none" : "free") + blank() + ";";
            case 1: return "tier " + name + new String[] {" cut ", " in ", " points "}[random.nextInt(3)] + word(1, 7) + ";";
            case 2: return " tier " + name + " points;";
            case 3:
            case 4: return "mark " + name + blank() + number() + " " + number() + label + ";";
            case 5: return blank() + "point " + name + " " + number() + label + blank() + ";";
            case 6:
            case 7: return "split  " + name + blank() + number() + label + ";";
            default: return "label " + name + " " + number() + label + ";";
        }
    }

    private String blank() {
        return random.nextBoolean() ? " " : random.nextBoolean() ? "" : "   ";
    }

    private String number() {
        int n = random.nextInt(60);
        return n == 0 ? "1000" : n == 1 ? "00999" : n == 2 ? "99999999999999999999" : "" + random.nextInt(42);
    }

    private String word(int length, int letters) {
        StringBuilder word = new StringBuilder();
        for (int i = 0; i < length; i++) {
            word.append((char) ('a' + random.nextInt(letters)));
        }
        return word.toString();
    }

    private boolean tell(String text) {
        byte[] bytes = text.getBytes(StandardCharsets.ISO_8859_1);
        for (int i = 0; i < bytes.length; i += 20) {
            if (!call("feed", Check.numbers(Arrays.copyOfRange(bytes, i, i + 20)))) {
                return false;
            }
        }
        run.append("\n  [").append(text).append(']');
        int cut = random.nextInt(10) == 0 ? random.nextInt(bytes.length + 1) : bytes.length;
        return call("text", cut);
    }

    // ---- arguments

    private int[] arguments(String name, int span) {
        int[] a = new int[ARGUMENTS.get(name)];
        for (int i = 0; i < a.length; i++) {
            a[i] = time(span);
        }
        boolean hasTier = !name.matches("told|silence|status|feed|text");
        if (a.length == 0) {
            return a;
        }
        if (!hasTier) {
            if (name.equals("silence")) {
                a[1] = 1 + random.nextInt(random.nextBoolean() ? 5 : 1000);
            } else {
                a[0] = random.nextInt(8) - 1;
            }
            return a;
        }
        int tiers = x.told(0);
        a[0] = index(tiers);
        if (name.matches("take|split|join|label|mark|within")) {
            a[1] = index(marks(a[0]));
        }
        if (name.matches("within|together")) {
            a[2] = index(tiers);
        }
        if (name.matches("move|room") && a[0] >= 0 && a[0] < tiers && random.nextInt(12) > 0) {
            a[1] = Math.max(0, x.stop(a[0], random.nextInt(1 + x.tier(a[0], 7))));
        }
        if (name.equals("move") && a[0] >= 0 && a[0] < tiers && random.nextInt(4) > 0) {
            a[2] = a[1] + random.nextInt(13) - 6;
        }
        if (name.equals("split") && a[1] >= 0 && a[1] < marks(a[0]) && random.nextInt(8) > 0) {
            int from = x.mark(a[0], a[1], 0);
            a[2] = from + random.nextInt(x.mark(a[0], a[1], 1) - from + 1);
        }
        if (name.equals("put") || name.equals("over")) {
            a[2] = random.nextInt(9) == 0 ? a[2] : a[1] + random.nextInt(random.nextBoolean() ? 4 : 30);
        }
        letters(name, a);
        if (MOST_WHAT.containsKey(name)) {
            a[a.length - 1] = random.nextInt(MOST_WHAT.get(name) + 1) + (random.nextInt(40) == 0 ? 1 : 0);
        }
        if (name.matches("snap|same")) {
            a[1] = random.nextInt(random.nextBoolean() ? 5 : 40);
        }
        if (name.matches("stop|find")) {
            a[a.length - 1] = random.nextInt(9) - 1;
        }
        return a;
    }

    private void letters(String name, int[] a) {
        int few = new int[] {0, 0, 11, 11, 34, 3}[random.nextInt(6)];
        int many = new int[] {0, 11, 34, 3, 32, 27, 1 << 20, -1, 33825, 878266}[random.nextInt(10)];
        if (name.equals("label")) {
            a[2] = random.nextBoolean() ? few : many;
        }
        if (name.matches("find|longest|together")) {
            a[1] = few;
        }
        if (name.equals("together")) {
            a[3] = random.nextInt(3) == 0 ? many : few;
        }
    }

    private int marks(int tier) {
        return tier >= 0 && tier < x.told(0) ? x.tier(tier, 2) : 0;
    }

    private int fullest() {
        int most = 0;
        for (int t = 0; t < x.told(0); t++) {
            most = Math.max(most, x.tier(t, 2));
        }
        return most;
    }

    private int index(int count) {
        return random.nextInt(40) == 0 ? random.nextInt(50) - 1 : random.nextInt(Math.max(1, count));
    }

    private int time(int span) {
        int t = random.nextInt(60);
        return t == 0 ? -1 : t == 1 ? 1000 : t == 2 ? Integer.MIN_VALUE : t == 3 ? Integer.MAX_VALUE
                : t == 4 ? 999 : t == 5 ? 0 : random.nextInt(span);
    }

    // ---- calls

    private boolean call(String name, int... a) {
        calls++;
        String got;
        String want;
        try {
            got = "" + answer(name, a);
        } catch (RuntimeException e) {
            got = e.getClass().getSimpleName();
        }
        try {
            want = "" + oracle.call(name, a);
        } catch (RuntimeException e) {
            want = e.getClass().getSimpleName();
        }
        String kind = got.matches("-?[0-9]+") ? name.equals("text") && got.startsWith("-") ? got : "answers" : got;
        SEEN.merge(name + " " + kind, 1, Integer::sum);
        if (name.equals("snap") && got.compareTo("0") > 0 || name.equals("split") && fullest() == 40) {
            SEEN.merge(name + (name.equals("snap") ? " moves" : " with a full tier ") + kind, 1, Integer::sum);
        }
        run.append("\n  ").append(name).append(Arrays.toString(a)).append(' ').append(got);
        if (!got.equals(want)) {
            run.append(", due is ").append(want);
        }
        return got.equals(want);
    }

    private long answer(String name, int[] a) {
        switch (name) {
            case "feed": return x.feed(a[0], a[1], a[2], a[3], a[4]);
            case "text": return x.text(a[0]);
            case "fault": return x.fault();
            case "put": return x.put(a[0], a[1], a[2]);
            case "point": return x.point(a[0], a[1]);
            case "take": return x.take(a[0], a[1]);
            case "split": return x.split(a[0], a[1], a[2]);
            case "join": return x.join(a[0], a[1]);
            case "move": return x.move(a[0], a[1], a[2]);
            case "silence": return x.silence(a[0], a[1]);
            case "label": return x.label(a[0], a[1], a[2]);
            case "adopt": return x.adopt(a[0]);
            case "snap": return x.snap(a[0], a[1]);
            case "undo": return x.undo();
            case "keep": return x.keep();
            case "told": return x.told(a[0]);
            case "tier": return x.tier(a[0], a[1]);
            case "mark": return x.mark(a[0], a[1], a[2]);
            case "at": return x.at(a[0], a[1]);
            case "over": return x.over(a[0], a[1], a[2], a[3]);
            case "within": return x.within(a[0], a[1], a[2], a[3]);
            case "find": return x.find(a[0], a[1], a[2]);
            case "together": return x.together(a[0], a[1], a[2], a[3]);
            case "longest": return x.longest(a[0], a[1], a[2]);
            case "gaps": return x.gaps(a[0], a[1]);
            case "stop": return x.stop(a[0], a[1]);
            case "room": return x.room(a[0], a[1], a[2]);
            case "agree": return x.agree(a[0], a[1]);
            case "same": return x.same(a[0], a[1], a[2]);
            case "print": return x.print();
            case "status": return x.status(a[0]);
            default: throw new AssertionError(name);
        }
    }
}
