/** Promises 17 to 28, 31 and 32: what is asked changes nothing. */
public final class AskTest {
    private static final String TEXT = "tier w free;tier p cut w;tier s in p;tier x points w;tier y points;"
            + "mark w 0 100 ab;mark w 100 200;mark w 250 260 ab;split p 40 c;mark s 10 30 d;mark s 35 40;"
            + "mark s 41 43 d;point x 100 e;point x 50;point y 100 d;point y 7 d;";

    public static void main(String[] args) {
        SpeechTiers x = Check.told(TEXT);
        long print = x.print();
        told(x);
        tiers(x);
        marks(x);
        at(x);
        over(x);
        within(x);
        find(x);
        together(x);
        longest(x);
        gaps(x);
        stops(x);
        Check.due("asked, nothing stays changed", x.print(), print);
        Check.due("asked, nothing can be taken back", x.told(3), 0);
        prints();
        status();
        Check.finish();
    }

    private static void told(SpeechTiers x) {
        Check.due("tiers", x.told(0), 5);
        Check.due("marks", x.told(1), 14);
        Check.due("families", x.told(2), 2);
        Check.due("taken back", x.told(3), 0);
        Check.due("tape", x.told(4), 0);
        Check.due("the other", x.told(5), -1);
        Check.argument("what", () -> x.told(6));
        Check.argument("what", () -> x.told(-1));
        x.feed(0, 0, 0, 0, 0);
        Check.due("tape", x.told(4), 20);
    }

    private static void tiers(SpeechTiers x) {
        int[][] due = {
            {0, -1, 3, 0, 0, 210, 2, 12, Check.letters("w") << 25},
            {1, 0, 4, 1, 0, 210, 1, 12, Check.letters("p") << 25},
            {2, 1, 3, 2, 0, 27, 0, 12, Check.letters("s") << 25},
            {3, 0, 2, 1, 0, 0, 0, 12, Check.letters("x") << 25},
            {3, -1, 2, 0, 4, 0, 0, 2, Check.letters("y") << 25},
        };
        for (int t = 0; t < due.length; t++) {
            for (int what = 0; what < 9; what++) {
                Check.due("tier(" + t + ", " + what + ")", x.tier(t, what), due[t][what]);
            }
        }
        Check.due("name", Check.told("tier abcdef free;").tier(0, 8), Check.letters("abcdef"));
        Check.due("name", Check.told("tier zz free;").tier(0, 8), 26 << 25 | 26 << 20);
        Check.missing("tier", () -> x.tier(5, 9));
        Check.missing("tier", () -> x.tier(-1, 0));
        Check.argument("what", () -> x.tier(0, 9));
        Check.argument("what", () -> x.tier(0, -1));
    }

    private static void marks(SpeechTiers x) {
        int[][] due = {
            {0, 0, 0, 100, Check.letters("ab"), -1, 4, 2, 5},
            {0, 1, 100, 200, 0, -1, 1, 5, 2},
            {0, 2, 250, 260, Check.letters("ab"), -1, 1, 2, 2},
            {1, 0, 0, 40, 0, 0, 2, 2, 3},
            {1, 1, 40, 100, 3, 0, 1, 3, 5},
            {1, 2, 100, 200, 0, 1, 0, 5, 2},
            {2, 1, 35, 40, 0, 0, 0, 1, 3},
            {2, 2, 41, 43, 4, 1, 0, 1, 1},
            {3, 0, 50, 50, 0, 0, 0, 1, 1},
            {3, 1, 100, 100, 5, 0, 0, 5, 5},
            {4, 1, 100, 100, 4, -1, 0, 1, 1},
        };
        for (int[] row : due) {
            for (int what = 0; what < 7; what++) {
                Check.due("mark(" + row[0] + ", " + row[1] + ", " + what + ")",
                        x.mark(row[0], row[1], what), row[what + 2]);
            }
        }
        Check.missing("tier", () -> x.mark(5, 0, 7));
        Check.missing("mark", () -> x.mark(0, 3, 7));
        Check.missing("mark", () -> x.mark(0, -1, 0));
        Check.argument("what", () -> x.mark(0, 0, 7));
        Check.argument("what", () -> x.mark(0, 0, -1));
    }

    private static void at(SpeechTiers x) {
        Check.due("begins", x.at(0, 0), 0);
        Check.due("has", x.at(0, 99), 0);
        Check.due("ends and begins", x.at(0, 100), 1);
        Check.due("ends", x.at(0, 200), -1);
        Check.due("behind all", x.at(0, 999), -1);
        Check.due("between", x.at(0, 220), -1);
        Check.due("point", x.at(3, 50), 0);
        Check.due("point", x.at(3, 51), -1);
        Check.missing("tier", () -> x.at(5, -1));
        Check.argument("time", () -> x.at(0, -1));
        Check.argument("time", () -> x.at(0, 1000));
    }

    private static void over(SpeechTiers x) {
        over(x, 0, 99, 251, 3, 0, 102);
        over(x, 0, 100, 250, 1, 1, 100);
        over(x, 0, 200, 250, 0, -1, 0);
        over(x, 0, 199, 251, 2, 1, 2);
        over(x, 0, 20, 30, 1, 0, 10);
        over(x, 2, 0, 999, 3, 0, 27);
        over(x, 3, 50, 100, 1, 0, 0);
        over(x, 3, 51, 101, 1, 1, 0);
        over(x, 3, 50, 101, 2, 0, 0);
        Check.missing("tier", () -> x.over(5, 1, 0, 0));
        Check.argument("to is not greater", () -> x.over(0, 1, 1, 0));
        Check.argument("from", () -> x.over(0, -1, 1, 0));
        Check.argument("to", () -> x.over(0, 0, 1000, 0));
        Check.argument("what", () -> x.over(0, 0, 1, 3));
        Check.argument("what", () -> x.over(0, 0, 1, -1));
    }

    private static void over(SpeechTiers x, int tier, int from, int to, int many, int first, int time) {
        String call = "over(" + tier + ", " + from + ", " + to + ", ";
        Check.due(call + "0)", x.over(tier, from, to, 0), many);
        Check.due(call + "1)", x.over(tier, from, to, 1), first);
        Check.due(call + "2)", x.over(tier, from, to, 2), time);
    }

    private static void within(SpeechTiers x) {
        within(x, 0, 0, 1, 2, 0, 100);
        within(x, 0, 0, 2, 3, 0, 27);
        within(x, 1, 1, 2, 1, 2, 2);
        within(x, 0, 0, 3, 2, 0, 0);
        within(x, 0, 1, 3, 1, 1, 0);
        within(x, 0, 1, 4, 1, 1, 0);
        within(x, 0, 2, 4, 0, -1, 0);
        within(x, 0, 1, 0, 1, 1, 100);
        within(x, 1, 0, 0, 0, -1, 0);
        within(x, 3, 1, 4, 1, 1, 0);
        within(x, 3, 1, 0, 0, -1, 0);
        Check.missing("tier", () -> x.within(5, 0, 0, 3));
        Check.missing("mark", () -> x.within(0, 3, 0, 3));
        Check.missing("the other tier", () -> x.within(0, 0, 5, 3));
        Check.missing("the other tier", () -> x.within(0, 0, -1, 0));
        Check.argument("what", () -> x.within(0, 0, 0, 3));
        Check.argument("what", () -> x.within(0, 0, 0, -1));
    }

    private static void within(SpeechTiers x, int tier, int mark, int other, int many, int first, int time) {
        String call = "within(" + tier + ", " + mark + ", " + other + ", ";
        Check.due(call + "0)", x.within(tier, mark, other, 0), many);
        Check.due(call + "1)", x.within(tier, mark, other, 1), first);
        Check.due(call + "2)", x.within(tier, mark, other, 2), time);
    }

    private static void find(SpeechTiers x) {
        Check.due("first", x.find(0, Check.letters("ab"), 0), 0);
        Check.due("second", x.find(0, Check.letters("ab"), 1), 2);
        Check.due("third", x.find(0, Check.letters("ab"), 2), -1);
        Check.due("without", x.find(0, 0, 0), 1);
        Check.due("without", x.find(1, 0, 2), 3);
        Check.due("points", x.find(4, 4, 1), 1);
        Check.due("below 0", x.find(0, 0, -1), -1);
        Check.due("k", x.find(0, 0, Integer.MAX_VALUE), -1);
        Check.due("no such letters", x.find(0, -1, 0), -1);
        Check.missing("tier", () -> x.find(5, 0, -1));
    }

    private static void together(SpeechTiers x) {
        Check.due("ab, c", x.together(0, Check.letters("ab"), 1, 3), 60);
        Check.due("ab, without", x.together(0, Check.letters("ab"), 1, 0), 50);
        Check.due("ab, d", x.together(0, Check.letters("ab"), 2, 4), 22);
        Check.due("c, d", x.together(1, 3, 2, 4), 2);
        Check.due("itself", x.together(0, Check.letters("ab"), 0, Check.letters("ab")), 110);
        Check.due("itself, others", x.together(0, Check.letters("ab"), 0, 0), 0);
        Check.due("points", x.together(0, 0, 3, 5), 0);
        Check.due("no such letters", x.together(0, -1, 1, 99), 0);
        Check.missing("tier", () -> x.together(5, 0, 0, 0));
        Check.missing("tier", () -> x.together(0, 0, 5, 0));
    }

    private static void longest(SpeechTiers x) {
        int ab = Check.letters("ab");
        longest(x, 0, ab, 0, 100, 2, 110);
        longest(x, 1, 0, 2, 100, 3, 150);
        longest(x, 2, 4, 0, 20, 2, 22);
        longest(x, 2, 1, -1, 0, 0, 0);
        longest(x, 4, 4, 0, 0, 2, 0);
        SpeechTiers y = Check.told("tier a free;mark a 0 1;mark a 1 3;mark a 5 7;");
        longest(y, 0, 0, 1, 2, 3, 5);
        Check.missing("tier", () -> x.longest(5, 0, 4));
        Check.argument("what", () -> x.longest(0, 0, 4));
        Check.argument("what", () -> x.longest(0, 0, -1));
    }

    private static void longest(SpeechTiers x, int tier, int letters, int... due) {
        for (int what = 0; what < 4; what++) {
            Check.due("longest(" + tier + ", " + letters + ", " + what + ")", x.longest(tier, letters, what), due[what]);
        }
    }

    private static void gaps(SpeechTiers x) {
        gaps(x, 0, 1, 1, 50, 50);
        gaps(x, 1, 0, -1, 0, 0);
        gaps(x, 2, 1, 0, 5, 5);
        gaps(x, 3, 0, -1, 0, 0);
        SpeechTiers y = Check.told("tier a free;mark a 1 2;mark a 5 6;mark a 6 7;mark a 10 12;mark a 13 20;");
        gaps(y, 0, 3, 0, 3, 7);
        Check.missing("tier", () -> x.gaps(5, 4));
        Check.argument("what", () -> x.gaps(0, 4));
        Check.argument("what", () -> x.gaps(3, -1));
    }

    private static void gaps(SpeechTiers x, int tier, int... due) {
        for (int what = 0; what < 4; what++) {
            Check.due("gaps(" + tier + ", " + what + ")", x.gaps(tier, what), due[what]);
        }
    }

    private static void stops(SpeechTiers x) {
        int[] stops = {0, 10, 30, 35, 40, 41, 43, 50, 100, 200, 250, 260};
        for (int k = 0; k < stops.length; k++) {
            Check.due("stop(2, " + k + ")", x.stop(2, k), stops[k]);
            int least = k == 0 ? 0 : stops[k - 1] + 1;
            int greatest = k + 1 == stops.length ? 999 : stops[k + 1] - 1;
            Check.due("room least", x.room(3, stops[k], 0), least);
            Check.due("room greatest", x.room(3, stops[k], 1), greatest);
        }
        Check.due("beyond", x.stop(0, stops.length), -1);
        Check.due("below", x.stop(0, -1), -1);
        Check.due("another family", x.stop(4, 0), 7);
        Check.due("another family", x.room(4, 7, 1), 99);
        Check.missing("tier", () -> x.stop(5, -1));
        Check.missing("tier", () -> x.room(5, 0, 2));
        Check.missing("no stop", () -> x.room(0, 7, 2));
        Check.missing("no stop", () -> x.room(0, -1, 0));
        Check.argument("what", () -> x.room(0, 0, 2));
        Check.argument("what", () -> x.room(0, 0, -1));
        SpeechTiers y = Check.told("tier a free;mark a 5 6;mark a 6 7;");
        Check.due("no room", y.room(0, 6, 0), 6);
        Check.due("no room", y.room(0, 6, 1), 6);
    }

    private static void prints() {
        Check.due("no marks", Check.told("tier a free;tier b points;").print(), 0);
        Check.due("one", Check.told("tier a free;mark a 2 3 d;").print(), ((2 * 31 + 3) * 31 + 4) * 31);
        long sum = (2 * 31 + 3) * 31 + 4;
        sum = ((sum * 31 + 7) * 31 + 9) * 31;
        sum = sum * 31;
        sum = ((sum * 31 + 1) * 31 + 1) * 31 + Check.letters("aab");
        Check.due("two tiers", Check.told("tier a free;tier b points;mark a 2 3 d;mark a 7 9;point b 1 aab;").print(),
                sum * 31);
        SpeechTiers x = Check.told("tier a free;");
        long due = 0;
        for (int i = 0; i < 20; i++) {
            x.put(0, 50 * i, 50 * i + 49);
            due = (due * 31 + 50 * i) * 31 + 50 * i + 49;
            due *= 31;
        }
        Check.due("beyond what a long holds", x.print(), due * 31);
    }

    private static void status() {
        SpeechTiers x = Check.told("tier a free;");
        Check.missing("tier", () -> x.at(1, -1));
        Check.argument("time", () -> x.at(0, -1));
        Check.argument("n", () -> x.text(1));
        Check.state("kind", () -> x.point(0, 0));
        Check.state("kind", () -> x.point(0, 0));
        Check.state("kind", () -> x.point(0, 0));
        Check.due("status(0)", x.status(0), 1);
        Check.due("status(1)", x.status(1), 2);
        Check.due("status(2)", x.status(2), 3);
        Check.due("status(3)", x.status(3), -1);
        Check.due("status(-1)", x.status(-1), -1);
        Check.tell(x, "tier b free;");
        Check.due("a new text leaves it", x.status(2), 3);
    }
}
