import java.nio.charset.StandardCharsets;
import java.util.Arrays;
import java.util.NoSuchElementException;

/** What the tests of the project share: feeding texts, comparing answers, expecting refusals. */
final class Check {
    interface Call {
        long answer();
    }

    private static int checks = 0;
    private static int wrong = 0;
    private static int sentences = 0;

    private Check() {
    }

    static void due(String what, long got, long want) {
        checks++;
        if (got != want) {
            wrong++;
            System.out.println(what + " answered " + got + ", due is " + want);
        }
    }

    /** One sentence of the document, with a test of its own that goes on its own. */
    static void sentence(String words, Runnable test) {
        int checksBefore = checks;
        int wrongBefore = wrong;
        sentences++;
        try {
            test.run();
        } catch (RuntimeException e) {
            wrong++;
            System.out.println("a call threw " + e);
        }
        if (wrong > wrongBefore || checks == checksBefore) {
            System.out.println("  does not hold: \"" + words + "\"");
        }
        if (checks == checksBefore) {
            wrong++;
        }
    }

    static void missing(String what, Call call) {
        refused(what, call, NoSuchElementException.class);
    }

    static void argument(String what, Call call) {
        refused(what, call, IllegalArgumentException.class);
    }

    static void state(String what, Call call) {
        refused(what, call, IllegalStateException.class);
    }

    private static void refused(String what, Call call, Class<?> due) {
        checks++;
        String got;
        try {
            got = "answered " + call.answer();
        } catch (RuntimeException e) {
            if (e.getClass() == due) {
                return;
            }
            got = "threw " + e.getClass().getSimpleName();
        }
        wrong++;
        System.out.println(what + " " + got + ", due is " + due.getSimpleName());
    }

    /** Feeds a text (rounded up to whole feeds with zero bytes) and has it told. */
    static int tell(SpeechTiers x, String text) {
        feed(x, text);
        return x.text(text.length());
    }

    static void feed(SpeechTiers x, String text) {
        byte[] bytes = text.getBytes(StandardCharsets.ISO_8859_1);
        for (int i = 0; i < bytes.length; i += 20) {
            int[] n = numbers(Arrays.copyOfRange(bytes, i, i + 20));
            x.feed(n[0], n[1], n[2], n[3], n[4]);
        }
    }

    static int[] numbers(byte[] twenty) {
        int[] n = new int[5];
        for (int i = 0; i < 20; i++) {
            n[i / 4] = n[i / 4] << 8 | twenty[i] & 255;
        }
        return n;
    }

    static SpeechTiers told(String text) {
        SpeechTiers x = new SpeechTiers();
        int answer = tell(x, text);
        if (answer < 0) {
            wrong++;
            System.out.println("the text '" + text + "' has a fault: " + answer + " at " + x.fault());
        }
        return x;
    }

    /** A fault and its place, for a text told to a fresh object. */
    static void fault(String text, int reason, int place) {
        SpeechTiers x = new SpeechTiers();
        due("text '" + text + "'", tell(x, text), reason - 10);
        due("fault() of '" + text + "'", x.fault(), place);
    }

    /** All marks of a tier, as a text: from-to:label from-to:label .. */
    static void marks(String what, SpeechTiers x, int tier, String want) {
        StringBuilder got = new StringBuilder();
        for (int m = 0; m < x.tier(tier, 2); m++) {
            got.append(m == 0 ? "" : " ").append(x.mark(tier, m, 0)).append('-').append(x.mark(tier, m, 1));
            int letters = x.mark(tier, m, 2);
            if (letters != 0) {
                got.append(':').append(word(letters));
            }
        }
        checks++;
        if (!got.toString().equals(want)) {
            wrong++;
            System.out.println(what + ": tier " + tier + " has '" + got + "', due is '" + want + "'");
        }
    }

    /** Puts forty marks of one time each, with as much between them, on a tier without any. */
    static void fill(SpeechTiers x, int tier) {
        for (int m = 0; m < 40; m++) {
            due("mark " + m, x.put(tier, 2 * m, 2 * m + 1), m);
        }
    }

    static int letters(String word) {
        int packed = 0;
        for (char c : word.toCharArray()) {
            packed = packed * 32 + c - 'a' + 1;
        }
        return packed;
    }

    static String word(int letters) {
        StringBuilder word = new StringBuilder();
        for (int rest = letters; rest != 0; rest /= 32) {
            word.append((char) ('a' + rest % 32 - 1));
        }
        return word.reverse().toString();
    }

    static void wrong(String what) {
        checks++;
        wrong++;
        System.out.println(what);
    }

    static void finish() {
        String of = sentences > 0 ? " of " + sentences + " sentences" : "";
        System.out.println(checks + " answers" + of + " looked at, " + wrong + " not as due");
        if (wrong != 0 || checks == 0) {
            System.exit(1);
        }
    }
}
