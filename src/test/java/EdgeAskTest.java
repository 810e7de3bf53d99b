/** The sentences of promises 17 to 32 that name a boundary, each with its test. */
public final class EdgeAskTest {
    private static final int MIN = Integer.MIN_VALUE;
    private static final int MAX = Integer.MAX_VALUE;

    public static void main(String[] args) {
        toldTierMark();
        atOverWithin();
        labels();
        gapsAndStops();
        theOther();
        fullAndGone();
        printAndStatus();
        Check.finish();
    }

    private interface Ask {
        long of(int what);
    }

    /** What may be asked is 0 to the most; all else is refused, and refused alone. */
    private static void whats(String name, int most, Ask ask) {
        Check.argument(name + " -1", () -> ask.of(-1));
        Check.argument(name + " " + (most + 1), () -> ask.of(most + 1));
        Check.argument(name + " the least", () -> ask.of(MIN));
        Check.argument(name + " the greatest", () -> ask.of(MAX));
        for (int what = 0; what <= most; what++) {
            Check.due(name + " " + what + " is answered", ask.of(what) >= -1 ? 1 : 0, 1);
        }
    }

    private static void all(String name, Ask ask, int... due) {
        for (int what = 0; what < due.length; what++) {
            Check.due(name + ", " + what, ask.of(what), due[what]);
        }
    }

    private static SpeechTiers beside(String kept, String text) {
        SpeechTiers x = Check.told(kept);
        x.keep();
        Check.due("text '" + text + "'", Check.tell(x, text) < 0 ? 1 : 0, 0);
        return x;
    }

    // ---- promises 17 to 19

    private static void toldTierMark() {
        Check.sentence("told: 0 TIERS .. 5 MARKS of THE OTHER (NONE without)", EdgeAskTest::told);
        Check.sentence("told: 2 FAMILIES", EdgeAskTest::toldFamilies);
        Check.sentence("told: 4 bytes of the TAPE", EdgeAskTest::toldBytes);
        Check.sentence("tier: no such TIER; no such what", EdgeAskTest::tierRefused);
        Check.sentence("tier: 1 PARENT (NONE)", EdgeAskTest::tierParent);
        Check.sentence("tier: 3 how many PARENTS are above it, 4 the TIER of its FAMILY that has no PARENT",
                EdgeAskTest::tierAbove);
        Check.sentence("tier: 5 TIMES of its MARKS together (TO less FROM)", EdgeAskTest::tierTimes);
        Check.sentence("tier: 6 TIERS of which it is the PARENT", EdgeAskTest::tierChildren);
        Check.sentence("tier: 7 STOPS of its FAMILY", EdgeAskTest::tierStops);
        Check.sentence("tier: 8 its NAME as a number (of six letters, 0 behind the last)", EdgeAskTest::tierName);
        Check.sentence("mark: no such TIER, MARK; no such what", EdgeAskTest::markRefused);
        Check.sentence("mark: 3 THE PARENT'S (NONE without a PARENT)", EdgeAskTest::markParent);
        Check.sentence("mark: 4 how many MARKS of TIERS right below lie in it (POINTS by THE PARENT'S)",
                EdgeAskTest::markHeld);
        Check.sentence("mark: 5 how many ends of MARKS and POINTS of its FAMILY are at FROM (itself, too), 6 at TO",
                EdgeAskTest::markEnds);
    }

    private static void told() {
        SpeechTiers x = Check.told("tier a free;tier b cut a;mark a 0 5;");
        whats("told", 5, what -> x.told(what));
        all("told", what -> x.told(what), 2, 2, 1, 0, 0, -1);
        x.keep();
        x.put(0, 5, 9);
        all("told", what -> x.told(what), 2, 4, 1, 1, 0, 2);
        SpeechTiers y = new SpeechTiers();
        whats("told of none", 5, what -> y.told(what));
    }

    private static void toldFamilies() {
        Check.due("none", new SpeechTiers().told(2), 0);
        Check.due("one", Check.told("tier a free;tier b cut a;tier c in b;tier d points c;").told(2), 1);
        Check.due("six", Check.told("tier a free;tier b free;tier c free;tier d points;tier e free;tier f points;")
                .told(2), 6);
    }

    private static void toldBytes() {
        SpeechTiers x = new SpeechTiers();
        Check.due("none", x.told(4), 0);
        for (int i = 1; i <= 21; i++) {
            x.feed(0, 0, 0, 0, 0);
            Check.due("bytes", x.told(4), Math.min(400, 20 * i));
        }
    }

    private static void tierRefused() {
        SpeechTiers x = Check.told("tier a free;tier b points;");
        whats("tier", 8, what -> x.tier(1, what));
        Check.missing("-1", () -> x.tier(-1, 0));
        Check.missing("2", () -> x.tier(2, 0));
        Check.missing("ahead of what", () -> x.tier(2, 9));
        Check.missing("the least", () -> x.tier(MIN, 0));
        Check.missing("the greatest", () -> x.tier(MAX, 0));
    }

    private static void tierParent() {
        SpeechTiers x = Check.told("tier a free;tier b free;tier c cut b;tier d points;tier e points c;");
        int[] parents = {-1, -1, 1, -1, 2};
        for (int t = 0; t < 5; t++) {
            Check.due("PARENT of " + t, x.tier(t, 1), parents[t]);
        }
    }

    private static void tierAbove() {
        SpeechTiers x = Check.told("tier z points;tier a free;tier b cut a;tier c in b;tier d cut c;tier e points d;");
        int[] above = {0, 0, 1, 2, 3, 4};
        int[] first = {0, 1, 1, 1, 1, 1};
        for (int t = 0; t < 6; t++) {
            Check.due("above " + t, x.tier(t, 3), above[t]);
            Check.due("the first of " + t, x.tier(t, 4), first[t]);
        }
    }

    private static void tierTimes() {
        SpeechTiers x = Check.told("tier a free;tier p points;tier b free;mark a 0 999;point p 5;point p 9;");
        Check.due("all of time", x.tier(0, 5), 999);
        Check.due("POINTS", x.tier(1, 5), 0);
        Check.due("none", x.tier(2, 5), 0);
        x.put(2, 5, 6);
        x.put(2, 8, 10);
        Check.due("without GAPS", x.tier(2, 5), 3);
    }

    private static void tierChildren() {
        SpeechTiers x = Check.told("tier a free;tier b cut a;tier c in a;tier d points a;tier e cut b;tier f points;");
        int[] children = {3, 1, 0, 0, 0, 0};
        for (int t = 0; t < 6; t++) {
            Check.due("right below " + t, x.tier(t, 6), children[t]);
        }
    }

    private static void tierStops() {
        SpeechTiers x = Check.told("tier a free;tier b cut a;tier p points b;tier q points;");
        Check.due("none", x.tier(1, 7), 0);
        x.put(0, 0, 999);
        Check.due("both ends, once", x.tier(2, 7), 2);
        x.point(2, 999);
        x.point(3, 5);
        Check.due("a POINT at one of them", x.tier(2, 7), 2);
        x.point(2, 998);
        Check.due("a POINT between", x.tier(0, 7), 3);
        Check.due("of another FAMILY", x.tier(3, 7), 1);
        SpeechTiers y = Check.told("tier a free;tier b in a;");
        for (int m = 0; m < 40; m++) {
            y.put(0, 24 * m, 24 * m + 20);
            y.put(1, 24 * m + 1, 24 * m + 2);
        }
        Check.due("as many as two full TIERS have", y.tier(0, 7), 160);
        Check.due("the last", y.stop(0, 159), 24 * 39 + 20);
    }

    private static void tierName() {
        Check.due("one letter", Check.told("tier a free;").tier(0, 8), 1 << 25);
        Check.due("two", Check.told("tier ab free;").tier(0, 8), 1 << 25 | 2 << 20);
        Check.due("five", Check.told("tier aaaaa free;").tier(0, 8), Check.letters("aaaaa") << 5);
        Check.due("six", Check.told("tier zzzzzz free;").tier(0, 8), Check.letters("zzzzzz"));
    }

    private static void markRefused() {
        SpeechTiers x = Check.told("tier a free;tier p points;mark a 0 5;point p 3;");
        whats("mark", 6, what -> x.mark(0, 0, what));
        whats("mark of POINTS", 6, what -> x.mark(1, 0, what));
        Check.missing("TIER -1", () -> x.mark(-1, 0, 0));
        Check.missing("TIER 2", () -> x.mark(2, 0, 0));
        Check.missing("MARK -1", () -> x.mark(0, -1, 0));
        Check.missing("MARK 1", () -> x.mark(0, 1, 0));
        Check.missing("ahead of what", () -> x.mark(0, 1, 7));
        Check.missing("the greatest", () -> x.mark(0, MAX, 0));
        Check.missing("the least", () -> x.mark(0, MIN, 0));
    }

    private static void markParent() {
        SpeechTiers x = Check.told("tier a free;tier b cut a;tier c in b;tier p points a;tier q points;"
                + "mark a 0 10;mark a 10 20;split b 5;mark c 5 10;mark c 10 20;point p 0;point p 10;point p 20;point q 5;");
        Check.due("FREE", x.mark(0, 0, 3), -1);
        Check.due("POINTS without", x.mark(4, 0, 3), -1);
        int[] cut = {0, 0, 1};
        int[] points = {0, 0, 1};
        for (int m = 0; m < 3; m++) {
            Check.due("CUT " + m, x.mark(1, m, 3), cut[m]);
            Check.due("POINT " + m, x.mark(3, m, 3), points[m]);
        }
        Check.due("IN, as long", x.mark(2, 0, 3), 1);
        Check.due("IN, as long", x.mark(2, 1, 3), 2);
    }

    private static void markHeld() {
        SpeechTiers x = Check.told("tier a free;tier b cut a;tier c in a;tier d cut b;tier p points a;tier q points;"
                + "mark a 0 10;mark a 10 20;split d 5;mark c 0 10;mark c 10 11;point p 10;point p 11;point q 5;");
        Check.due("one of b, one of c, the POINT that two have", x.mark(0, 0, 4), 3);
        Check.due("one of b, one of c, a POINT", x.mark(0, 1, 4), 3);
        Check.due("two of d", x.mark(1, 0, 4), 2);
        Check.due("nothing below", x.mark(3, 0, 4), 0);
        Check.due("of a POINT", x.mark(4, 0, 4), 0);
    }

    private static void markEnds() {
        SpeechTiers x = Check.told("tier a free;tier b cut a;tier p points b;tier q points;"
                + "mark a 0 10;mark a 10 20;point p 10;point q 10;point q 0;");
        Check.due("FROM 0: a, b", x.mark(0, 0, 5), 2);
        Check.due("TO 10: two of a, two of b, a POINT", x.mark(0, 0, 6), 5);
        Check.due("FROM 10", x.mark(1, 1, 5), 5);
        Check.due("of a POINT, FROM", x.mark(2, 0, 5), 5);
        Check.due("of a POINT, TO", x.mark(2, 0, 6), 5);
        Check.due("itself alone", x.mark(3, 0, 5), 1);
        Check.due("itself alone, a POINT counts once", x.mark(3, 1, 6), 1);
    }

    // ---- promises 20 to 22

    private static void atOverWithin() {
        Check.sentence("at: The MARK of a TIER that has a TIME, or begins with it (of POINTS: is there); NONE: none",
                EdgeAskTest::at);
        Check.sentence("at: no such TIER; a TIME that is not 0 to 999", EdgeAskTest::atRefused);
        Check.sentence("over: (FROM less than to, TO greater than from)", EdgeAskTest::over);
        Check.sentence("over: (POINTS: from at least, less than to)", EdgeAskTest::overPoints);
        Check.sentence("over: (IllegalArgumentException: to is not greater)", EdgeAskTest::overRefused);
        Check.sentence("over: 1 the first (NONE), 2 TIME of these within from .. to", EdgeAskTest::overAnswers);
        Check.sentence("within: MARKS of another TIER (or the same) that lie wholly in a MARK", EdgeAskTest::within);
        Check.sentence("within: 0 how many, 1 the first (NONE), 2 their TIME together", EdgeAskTest::withinNone);
        Check.sentence("within: no such TIER, MARK, TIER; no such what", EdgeAskTest::withinRefused);
    }

    private static void at() {
        SpeechTiers x = Check.told("tier a free;tier p points;tier b free;"
                + "mark a 0 5;mark a 5 9;mark a 10 999;point p 0;point p 999;");
        int[][] due = {{0, 0}, {4, 0}, {5, 1}, {8, 1}, {9, -1}, {10, 2}, {998, 2}, {999, -1}};
        for (int[] d : due) {
            Check.due("at(0, " + d[0] + ")", x.at(0, d[0]), d[1]);
        }
        Check.due("a POINT at 0", x.at(1, 0), 0);
        Check.due("a POINT at 999", x.at(1, 999), 1);
        Check.due("none beside it", x.at(1, 1), -1);
        Check.due("none beside it", x.at(1, 998), -1);
        Check.due("no MARKS", x.at(2, 0), -1);
    }

    private static void atRefused() {
        SpeechTiers x = Check.told("tier a free;");
        Check.missing("TIER 1", () -> x.at(1, 0));
        Check.missing("TIER -1, ahead of the TIME", () -> x.at(-1, -1));
        Check.argument("-1", () -> x.at(0, -1));
        Check.argument("1000", () -> x.at(0, 1000));
        Check.argument("the least", () -> x.at(0, MIN));
        Check.argument("the greatest", () -> x.at(0, MAX));
    }

    private static void over() {
        SpeechTiers x = Check.told("tier a free;mark a 10 20;mark a 20 30;");
        all("to its FROM", what -> x.over(0, 0, 10, what), 0, -1, 0);
        all("its first TIME", what -> x.over(0, 0, 11, what), 1, 0, 1);
        all("from its TO", what -> x.over(0, 30, 999, what), 0, -1, 0);
        all("its last TIME", what -> x.over(0, 29, 999, what), 1, 1, 1);
        all("where they touch", what -> x.over(0, 19, 21, what), 2, 0, 2);
        all("one alone", what -> x.over(0, 20, 30, what), 1, 1, 10);
        all("within one", what -> x.over(0, 14, 15, what), 1, 0, 1);
        all("all of time", what -> x.over(0, 0, 999, what), 2, 0, 20);
    }

    private static void overPoints() {
        SpeechTiers x = Check.told("tier p points;point p 0;point p 10;point p 20;");
        all("from it", what -> x.over(0, 10, 20, what), 1, 1, 0);
        all("to it", what -> x.over(0, 11, 20, what), 0, -1, 0);
        all("just behind it", what -> x.over(0, 11, 21, what), 1, 2, 0);
        all("from 0", what -> x.over(0, 0, 1, what), 1, 0, 0);
        all("all", what -> x.over(0, 0, 999, what), 3, 0, 0);
    }

    private static void overRefused() {
        SpeechTiers x = Check.told("tier a free;mark a 0 5;");
        whats("over", 2, what -> x.over(0, 0, 1, what));
        Check.argument("alike", () -> x.over(0, 3, 3, 0));
        Check.argument("less", () -> x.over(0, 3, 2, 0));
        Check.argument("from is no TIME", () -> x.over(0, -1, 5, 0));
        Check.argument("to is no TIME", () -> x.over(0, 0, 1000, 0));
        Check.argument("the least and the greatest", () -> x.over(0, MIN, MAX, 0));
        Check.missing("TIER", () -> x.over(1, 0, 1, 0));
        Check.missing("ahead of others", () -> x.over(-1, 3, 3, 5));
    }

    private static void overAnswers() {
        SpeechTiers x = Check.told("tier a free;tier b free;mark a 0 5;mark a 10 20;mark a 30 40;");
        all("two, cut at both ends", what -> x.over(0, 12, 33, what), 2, 1, 11);
        all("between", what -> x.over(0, 5, 10, what), 0, -1, 0);
        all("no MARKS", what -> x.over(1, 0, 999, what), 0, -1, 0);
    }

    private static void within() {
        SpeechTiers x = Check.told("tier a free;tier b free;tier p points;"
                + "mark a 10 20;mark b 9 10;mark b 10 12;mark b 18 20;mark b 20 22;point p 9;point p 10;point p 20;point p 21;");
        all("from FROM, to TO", what -> x.within(0, 0, 1, what), 2, 1, 4);
        all("POINTS at FROM and TO", what -> x.within(0, 0, 2, what), 2, 1, 0);
        all("the same TIER", what -> x.within(0, 0, 0, what), 1, 0, 10);
        all("one that is longer", what -> x.within(1, 1, 0, what), 0, -1, 0);
        all("of a POINT", what -> x.within(2, 1, 2, what), 1, 1, 0);
        SpeechTiers y = Check.told("tier a free;tier b free;mark a 10 20;mark b 9 19;mark b 19 21;");
        all("one too early, one too late", what -> y.within(0, 0, 1, what), 0, -1, 0);
    }

    private static void withinNone() {
        SpeechTiers x = Check.told("tier a free;tier b free;tier p points;mark a 10 20;point p 15;");
        all("no MARKS", what -> x.within(0, 0, 1, what), 0, -1, 0);
        all("a POINT has no TIME", what -> x.within(0, 0, 2, what), 1, 0, 0);
        all("nothing lies in a POINT", what -> x.within(2, 0, 0, what), 0, -1, 0);
        x.put(1, 10, 11);
        x.put(1, 19, 20);
        x.put(1, 0, 10);
        all("their TIME together", what -> x.within(0, 0, 1, what), 2, 1, 2);
    }

    private static void withinRefused() {
        SpeechTiers x = Check.told("tier a free;mark a 10 20;");
        whats("within", 2, what -> x.within(0, 0, 0, what));
        Check.missing("TIER", () -> x.within(1, 0, 0, 0));
        Check.missing("TIER -1", () -> x.within(-1, 0, 0, 0));
        Check.missing("MARK", () -> x.within(0, 1, 0, 0));
        Check.missing("MARK -1", () -> x.within(0, -1, 0, 0));
        Check.missing("the other TIER", () -> x.within(0, 0, 1, 0));
        Check.missing("the other TIER -1, ahead of what", () -> x.within(0, 0, -1, 3));
    }

    // ---- promises 23 to 25

    private static void labels() {
        Check.sentence("find: The k-th MARK of a TIER with a LABEL (as a number; 0: without)", EdgeAskTest::find);
        Check.sentence("find: NONE: there are not so many, or k is below 0", EdgeAskTest::findNone);
        Check.sentence("together: TIME that both a MARK of a TIER with a LABEL and one of another TIER have",
                EdgeAskTest::together);
        Check.sentence("together: no such TIER, either", EdgeAskTest::togetherRefused);
        Check.sentence("longest: of alike ones the first", EdgeAskTest::longestFirst);
        Check.sentence("longest: 0 its number (NONE: there is none), 1 TIME (0), 2 how many have it, 3 their TIME together",
                EdgeAskTest::longestNone);
        Check.sentence("longest: no such TIER; no such what", EdgeAskTest::longestRefused);
    }

    private static void find() {
        SpeechTiers x = Check.told("tier a free;tier p points;mark a 0 1 k;mark a 1 2;mark a 2 3 k;mark a 3 4;mark a 4 5 kk;"
                + "point p 7 k;");
        Check.due("the 0th", x.find(0, 11, 0), 0);
        Check.due("the 1st", x.find(0, 11, 1), 2);
        Check.due("without, the 0th", x.find(0, 0, 0), 1);
        Check.due("without, the 1st", x.find(0, 0, 1), 3);
        Check.due("of two letters", x.find(0, Check.letters("kk"), 0), 4);
        Check.due("a POINT", x.find(1, 11, 0), 0);
    }

    private static void findNone() {
        SpeechTiers x = Check.told("tier a free;tier b free;mark a 0 1 k;mark a 1 2;mark a 2 3 k;");
        Check.due("two", x.find(0, 11, 2), -1);
        Check.due("one without", x.find(0, 0, 1), -1);
        Check.due("k -1", x.find(0, 11, -1), -1);
        Check.due("k the least", x.find(0, 11, MIN), -1);
        Check.due("k the greatest", x.find(0, 11, MAX), -1);
        Check.due("no such LABEL", x.find(0, 12, 0), -1);
        Check.due("no such letters", x.find(0, 32, 0), -1);
        Check.due("no such letters", x.find(0, -1, 0), -1);
        Check.due("no MARKS", x.find(1, 0, 0), -1);
        Check.missing("TIER", () -> x.find(2, 0, 0));
        Check.missing("TIER -1, whatever k", () -> x.find(-1, 0, -1));
        Check.due("no other refusal", x.status(1), 0);
    }

    private static void together() {
        SpeechTiers x = Check.told("tier a free;tier b free;tier p points;mark a 0 10 k;mark a 10 20;mark a 30 40 k;"
                + "mark b 5 12 l;mark b 12 31 m;mark b 39 50 l;point p 5 l;");
        Check.due("k, l", x.together(0, 11, 1, 12), 6);
        Check.due("k, m", x.together(0, 11, 1, 13), 1);
        Check.due("without, l", x.together(0, 0, 1, 12), 2);
        Check.due("the other way", x.together(1, 12, 0, 11), 6);
        Check.due("the same TIER", x.together(0, 11, 0, 11), 20);
        Check.due("the same TIER, unlike ones", x.together(0, 11, 0, 0), 0);
        Check.due("they touch alone", x.together(0, 0, 1, 99), 0);
        Check.due("POINTS have no TIME", x.together(0, 11, 2, 12), 0);
        Check.due("no such letters", x.together(0, -1, 1, MIN), 0);
        SpeechTiers y = Check.told("tier a free;tier b free;mark a 0 10;mark b 10 20;");
        Check.due("they touch alone", y.together(0, 0, 1, 0), 0);
    }

    private static void togetherRefused() {
        SpeechTiers x = Check.told("tier a free;");
        Check.missing("the first", () -> x.together(1, 0, 0, 0));
        Check.missing("the first -1", () -> x.together(-1, 0, 0, 0));
        Check.missing("the second", () -> x.together(0, 0, 1, 0));
        Check.missing("the second -1", () -> x.together(0, 0, -1, 0));
        Check.due("each counted once", x.status(0), 4);
        Check.missing("both", () -> x.together(1, 0, 1, 0));
        Check.due("both counted once", x.status(0), 5);
    }

    private static void longestFirst() {
        SpeechTiers x = Check.told("tier a free;tier p points;mark a 0 1;mark a 1 3;mark a 5 7;mark a 8 9;point p 3;point p 4;");
        all("of alike ones", what -> x.longest(0, 0, what), 1, 2, 4, 6);
        all("POINTS, all alike", what -> x.longest(1, 0, what), 0, 0, 2, 0);
        x.put(0, 20, 23);
        all("a longer one", what -> x.longest(0, 0, what), 4, 3, 5, 9);
    }

    private static void longestNone() {
        SpeechTiers x = Check.told("tier a free;tier b free;mark a 0 5 k;mark a 5 20;");
        all("no such LABEL", what -> x.longest(0, 12, what), -1, 0, 0, 0);
        all("no such letters", what -> x.longest(0, -1, what), -1, 0, 0, 0);
        all("no MARKS", what -> x.longest(1, 0, what), -1, 0, 0, 0);
        all("one", what -> x.longest(0, 11, what), 0, 5, 1, 5);
        all("without", what -> x.longest(0, 0, what), 1, 15, 1, 15);
    }

    private static void longestRefused() {
        SpeechTiers x = Check.told("tier a free;");
        whats("longest", 3, what -> x.longest(0, 0, what));
        Check.missing("TIER", () -> x.longest(1, 0, 0));
        Check.missing("TIER -1, ahead of what", () -> x.longest(-1, 0, 4));
    }

    // ---- promises 26 to 28

    private static void gapsAndStops() {
        Check.sentence("gaps: 1 the MARK ahead of the longest, of alike ones the first (NONE), 2 how long that is (0)",
                EdgeAskTest::gaps);
        Check.sentence("gaps: (POINTS: 0, NONE, 0, 0.)", EdgeAskTest::gapsOfPoints);
        Check.sentence("gaps: no such TIER; no such what", EdgeAskTest::gapsRefused);
        Check.sentence("stop: The k-th STOP of the FAMILY of a TIER; NONE: there are not so many, or k is below 0",
                EdgeAskTest::stop);
        Check.sentence("room: To which TIMES a STOP could be MOVED: the least (what 0), the greatest (1)",
                EdgeAskTest::room);
        Check.sentence("room: no such TIER, STOP; no such what", EdgeAskTest::roomRefused);
    }

    private static void gaps() {
        SpeechTiers x = Check.told("tier a free;mark a 5 6;mark a 7 8;mark a 10 11;mark a 13 14;mark a 14 15;");
        all("1, 2, 2 and none", what -> x.gaps(0, what), 3, 1, 2, 5);
        SpeechTiers y = Check.told("tier a free;tier b in a;mark a 0 10;mark a 20 30;mark b 0 1;mark b 9 10;mark b 20 21;");
        all("of IN, in one of the PARENT", what -> y.gaps(1, what), 1, 0, 8, 8);
        SpeechTiers z = Check.told("tier a free;");
        all("no MARKS", what -> z.gaps(0, what), 0, -1, 0, 0);
        z.put(0, 5, 9);
        all("one MARK", what -> z.gaps(0, what), 0, -1, 0, 0);
        z.put(0, 9, 12);
        all("they touch", what -> z.gaps(0, what), 0, -1, 0, 0);
        z.put(0, 998, 999);
        z.put(0, 0, 1);
        all("the greatest", what -> z.gaps(0, what), 2, 2, 986, 990);
    }

    private static void gapsOfPoints() {
        SpeechTiers x = Check.told("tier a free;tier p points a;tier q points;mark a 0 9;point p 0;point p 9;point q 0;point q 9;");
        all("with a PARENT", what -> x.gaps(1, what), 0, -1, 0, 0);
        all("without", what -> x.gaps(2, what), 0, -1, 0, 0);
    }

    private static void gapsRefused() {
        SpeechTiers x = Check.told("tier a free;tier p points;");
        whats("gaps", 3, what -> x.gaps(0, what));
        whats("gaps of POINTS", 3, what -> x.gaps(1, what));
        Check.missing("TIER", () -> x.gaps(2, 0));
        Check.missing("TIER -1, ahead of what", () -> x.gaps(-1, 4));
    }

    private static void stop() {
        SpeechTiers x = Check.told("tier a free;tier p points a;tier q points;mark a 0 999;point p 5;");
        Check.due("the 0th", x.stop(1, 0), 0);
        Check.due("the 1st", x.stop(0, 1), 5);
        Check.due("the last", x.stop(0, 2), 999);
        Check.due("not so many", x.stop(0, 3), -1);
        Check.due("k -1", x.stop(0, -1), -1);
        Check.due("k the least", x.stop(0, MIN), -1);
        Check.due("k the greatest", x.stop(0, MAX), -1);
        Check.due("none at all", x.stop(2, 0), -1);
        Check.missing("TIER", () -> x.stop(3, 0));
        Check.missing("TIER -1, whatever k", () -> x.stop(-1, -1));
    }

    private static void room() {
        SpeechTiers x = Check.told("tier a free;tier p points a;tier q points;mark a 10 20;point p 11;point q 500;");
        all("the first", what -> x.room(0, 10, what), 0, 10);
        all("no room behind", what -> x.room(1, 11, what), 11, 19);
        all("the last", what -> x.room(0, 20, what), 12, 999);
        all("the only one", what -> x.room(2, 500, what), 0, 999);
        for (int stop : new int[] {10, 11, 20}) {
            int least = x.room(0, stop, 0);
            int greatest = x.room(0, stop, 1);
            if (least > 0) {
                Check.state("one less than the least", () -> x.move(0, stop, least - 1));
            }
            if (greatest < 999) {
                Check.state("one more than the greatest", () -> x.move(0, stop, greatest + 1));
            }
            x.move(0, stop, least);
            x.undo();
            x.move(0, stop, greatest);
            x.undo();
        }
        SpeechTiers y = Check.told("tier a free;mark a 0 1;mark a 1 2;");
        all("no room at all", what -> y.room(0, 1, what), 1, 1);
        all("0 stays", what -> y.room(0, 0, what), 0, 0);
    }

    private static void roomRefused() {
        SpeechTiers x = Check.told("tier a free;tier q points;mark a 10 20;point q 15;");
        whats("room", 1, what -> x.room(0, 10, what));
        Check.missing("no STOP there", () -> x.room(0, 11, 0));
        Check.missing("one of another FAMILY", () -> x.room(0, 15, 0));
        Check.missing("-1, ahead of what", () -> x.room(0, -1, 2));
        Check.missing("1000", () -> x.room(0, 1000, 0));
        Check.missing("TIER", () -> x.room(2, 10, 0));
        Check.missing("TIER -1", () -> x.room(-1, 10, 0));
    }

    // ---- promises 29, 30

    private static void theOther() {
        Check.sentence("agree: TIME that is 0 of MARKS of both with the same LABEL, 1 of both with unlike ones,"
                + " 2 only of one here, 3 only of one there", EdgeAskTest::agree);
        Check.sentence("agree: NONE: there is none such", EdgeAskTest::agreeNone);
        Check.sentence("same: that are so much (0 to 999) apart at most", EdgeAskTest::sameApart);
        Check.sentence("same: pairs of one of each (none in two of them, the ones of both in the same order)",
                EdgeAskTest::samePairs);
        Check.sentence("same: 0 how many there can be, 1 by how much all are apart together then, at the least",
                EdgeAskTest::sameLeast);
        Check.sentence("same: NONE: there is none such", EdgeAskTest::sameNone);
        Check.sentence("Asked, nothing stays changed", EdgeAskTest::askedNothingChanges);
    }

    private static void agree() {
        SpeechTiers x = beside("tier a free;mark a 0 10 k;mark a 10 20;mark a 30 40 l;",
                "tier a free;mark a 5 15 k;mark a 15 25;mark a 40 50 l;");
        all("k 5 to 10, none 15 to 20; k 10 to 15; 20 to 25, 40 to 50; 0 to 5, 30 to 40",
                what -> x.agree(0, what), 10, 5, 15, 15);
        SpeechTiers y = beside("tier a free;mark a 0 999;", "tier a free;mark a 0 999;");
        all("without LABELS both", what -> y.agree(0, what), 999, 0, 0, 0);
        y.label(0, 0, 1);
        all("one without", what -> y.agree(0, what), 0, 999, 0, 0);
        y.take(0, 0);
        all("none here", what -> y.agree(0, what), 0, 0, 0, 999);
        SpeechTiers z = beside("tier a free;", "tier a free;mark a 0 999;");
        all("none there", what -> z.agree(0, what), 0, 0, 999, 0);
        SpeechTiers w = beside("tier p points;point p 5;", "tier p points;point p 5;");
        all("POINTS have no TIME", what -> w.agree(0, what), 0, 0, 0, 0);
    }

    private static void agreeNone() {
        SpeechTiers x = Check.told("tier a free;mark a 0 5;");
        all("no THE OTHER", what -> x.agree(0, what), -1, -1, -1, -1);
        SpeechTiers y = beside("tier b free;tier aa free;", "tier a free;mark a 0 5;");
        all("none of this NAME", what -> y.agree(0, what), -1, -1, -1, -1);
        whats("agree", 3, what -> y.agree(0, what));
        Check.missing("TIER", () -> y.agree(1, 0));
        Check.missing("TIER -1, ahead of what", () -> y.agree(-1, 4));
        SpeechTiers z = beside("tier b free;tier a free;mark a 0 5;", "tier a free;mark a 0 5;");
        all("by NAME, not by number", what -> z.agree(0, what), 5, 0, 0, 0);
    }

    private static void sameApart() {
        SpeechTiers x = beside("tier p points;point p 0;", "tier p points;point p 999;");
        Check.argument("-1", () -> x.same(0, -1, 0));
        Check.argument("1000", () -> x.same(0, 1000, 0));
        Check.argument("the least", () -> x.same(0, MIN, 0));
        Check.argument("the greatest", () -> x.same(0, MAX, 0));
        all("998", what -> x.same(0, 998, what), 0, 0);
        all("999", what -> x.same(0, 999, what), 1, 999);
        SpeechTiers y = beside("tier p points;point p 5;point p 7;", "tier p points;point p 5;point p 8;");
        all("0", what -> y.same(0, 0, what), 1, 0);
        all("1", what -> y.same(0, 1, what), 2, 1);
    }

    private static void samePairs() {
        SpeechTiers x = beside("tier p points;point p 5;", "tier p points;point p 4;point p 6;");
        all("none in two of them", what -> x.same(0, 9, what), 1, 1);
        SpeechTiers y = beside("tier p points;point p 10;point p 11;", "tier p points;point p 0;point p 10;");
        all("in the same order", what -> y.same(0, 1, what), 1, 0);
        all("in the same order, more of them", what -> y.same(0, 10, what), 2, 11);
        SpeechTiers z = beside("tier a free;mark a 0 5;mark a 5 9;", "tier a free;mark a 0 5;mark a 6 9;");
        all("a TIME that two MARKS have is one", what -> z.same(0, 0, what), 3, 0);
        all("a TIME that two MARKS have is one", what -> z.same(0, 1, what), 3, 0);
    }

    private static void sameLeast() {
        // 13 is nearest to 12, but then 9 and 16 are left: as many as can be goes first
        SpeechTiers x = beside("tier p points;point p 12;point p 16;", "tier p points;point p 9;point p 13;");
        all("one", what -> x.same(0, 1, what), 1, 1);
        all("two, though further apart", what -> x.same(0, 3, what), 2, 6);
        SpeechTiers y = beside("tier p points;point p 10;", "tier p points;point p 7;point p 12;point p 14;");
        all("the nearest", what -> y.same(0, 9, what), 1, 2);
        SpeechTiers z = Check.told("tier a free;");
        for (int m = 0; m < 40; m++) {
            z.put(0, 2 * m, 2 * m + 1);
        }
        z.keep();
        all("eighty, all alike", what -> z.same(0, 999, what), 80, 0);
        z.silence(0, 900);
        all("eighty, all but one 900 apart", what -> z.same(0, 999, what), 80, 79 * 900);
    }

    private static void sameNone() {
        SpeechTiers x = Check.told("tier a free;mark a 0 5;");
        all("no THE OTHER", what -> x.same(0, 0, what), -1, -1);
        SpeechTiers y = beside("tier b free;", "tier a free;mark a 0 5;");
        all("none of this NAME", what -> y.same(0, 999, what), -1, -1);
        whats("same", 1, what -> y.same(0, 0, what));
        Check.missing("TIER", () -> y.same(1, 0, 0));
        Check.missing("TIER -1, ahead of others", () -> y.same(-1, -1, 2));
        SpeechTiers z = beside("tier a free;", "tier a free;mark a 0 5;");
        all("no TIMES there", what -> z.same(0, 999, what), 0, 0);
    }

    private static void askedNothingChanges() {
        SpeechTiers x = beside("tier a free;mark a 0 5 k;", "tier a free;mark a 1 6;tier p points a;point p 3;");
        x.put(0, 10, 20);
        x.feed(0, 0, 0, 0, 0);
        long print = x.print();
        for (int round = 0; round < 2; round++) {
            all("told", what -> x.told(what), 2, 3, 1, 1, 20, 1);
            all("tier", what -> x.tier(0, what), 0, -1, 2, 0, 0, 15, 1, 5, 1 << 25);
            all("mark", what -> x.mark(0, 0, what), 1, 6, 0, -1, 1, 1, 1);
            Check.due("at", x.at(0, 1), 0);
            all("over", what -> x.over(0, 0, 999, what), 2, 0, 15);
            all("within", what -> x.within(0, 0, 1, what), 1, 0, 0);
            Check.due("find", x.find(0, 0, 1), 1);
            Check.due("together", x.together(0, 0, 0, 0), 15);
            all("longest", what -> x.longest(0, 0, what), 1, 10, 2, 15);
            all("gaps", what -> x.gaps(0, what), 1, 0, 4, 4);
            Check.due("stop", x.stop(0, 4), 20);
            all("room", what -> x.room(0, 3, what), 2, 5);
            all("agree", what -> x.agree(0, what), 0, 4, 11, 1);
            all("same", what -> x.same(0, 1, what), 2, 2);
            Check.due("fault", x.fault(), -1);
            Check.due("print", x.print(), print);
            Check.due("status", x.status(0) + x.status(1) + x.status(2), 0);
        }
    }

    // ---- what is full, what is gone

    private static void fullAndGone() {
        Check.sentence("6 TIERS, 40 MARKS at most: all is answered of as many", EdgeAskTest::full);
        Check.sentence("6 TIERS, 40 MARKS at most: laid beside as many", EdgeAskTest::fullBeside);
        Check.sentence("TAKEN AWAY: the MARK goes, nothing asked finds it", EdgeAskTest::goneMarks);
        Check.sentence("text: tell all anew: nothing asked finds a TIER of the TEXT ahead of it", EdgeAskTest::goneTiers);
        Check.sentence("keep: THE OTHER has nothing of what was THE OTHER ahead of it", EdgeAskTest::goneOther);
    }

    /** Six tiers of forty marks each: the last one of each is the last of all that there can be. */
    private static SpeechTiers six() {
        SpeechTiers x = Check.told("tier a free;tier b cut a;tier c in b;tier d cut c;tier e points d;tier f points;");
        Check.fill(x, 0);
        for (int m = 0; m < 40; m++) {
            x.put(2, 2 * m, 2 * m + 1);
            x.point(4, 2 * m + 1);
            x.point(5, 960 + m);
        }
        return x;
    }

    private static void full() {
        SpeechTiers x = six();
        Check.due("MARKS in all", x.told(1), 240);
        for (int t = 0; t < 6; t++) {
            int tier = t;
            boolean points = t >= 4;
            int last = t == 5 ? 999 : 79;
            int from = points ? last : 78;
            all("tier " + t, what -> x.tier(tier, what), new int[] {0, 1, 2, 1, 3, 3}[t],
                    new int[] {-1, 0, 1, 2, 3, -1}[t], 40, new int[] {0, 1, 2, 3, 4, 0}[t], t == 5 ? 5 : 0,
                    points ? 0 : 40, t < 4 ? 1 : 0, t == 5 ? 40 : 80);
            int ends = t == 5 ? 1 : points ? 5 : 4;
            all("the last of " + t, what -> x.mark(tier, 39, what), from, last, 0, t == 0 || t == 5 ? -1 : 39,
                    t < 4 ? 1 : 0, ends, t == 5 ? 1 : 5);
            Check.missing("a 41st of " + t, () -> x.mark(tier, 40, 0));
            Check.due("at", x.at(t, from), 39);
            all("over", what -> x.over(tier, from - 1, 999, what), 1, t == 5 ? 38 : 39, points ? 0 : 1);
            all("within", what -> x.within(0, 39, tier, what), t == 5 ? 0 : 1, t == 5 ? -1 : 39, points ? 0 : 1);
            Check.due("find", x.find(t, 0, 39), 39);
            Check.due("find", x.find(t, 0, 40), -1);
            Check.due("together", x.together(t, 0, 0, 0), points ? 0 : 40);
            Check.due("together", x.together(0, 0, t, 0), points ? 0 : 40);
            all("longest", what -> x.longest(tier, 0, what), 0, points ? 0 : 1, 40, points ? 0 : 40);
            boolean gaps = t == 0;
            all("gaps", what -> x.gaps(tier, what), gaps ? 39 : 0, gaps ? 0 : -1, gaps ? 1 : 0, gaps ? 39 : 0);
            Check.due("stop", x.stop(t, t == 5 ? 39 : 79), last);
            all("room", what -> x.room(tier, last, what), t == 5 ? 999 : 79, 999);
            if (t < 4) {
                Check.state("join of the 40th", () -> x.join(tier, 39));
            }
        }
    }

    private static void fullBeside() {
        SpeechTiers x = six();
        Check.due("keep", x.keep(), 240);
        for (int t = 0; t < 6; t++) {
            int tier = t;
            all("agree", what -> x.agree(tier, what), t < 4 ? 40 : 0, 0, 0, 0);
            all("same", what -> x.same(tier, 0, what), t < 4 ? 80 : 40, 0);
            Check.due("adopt", x.adopt(t), 0);
            Check.due("snap", x.snap(t, 999), 0);
        }
        Check.due("move the last", x.move(0, 79, 500), 5);
        all("agree", what -> x.agree(3, what), 40, 0, 421, 0);
        Check.due("snap it back", x.snap(2, 421), 1);
        Check.due("label", x.label(5, 39, 7), 0);
        x.keep();
        x.undo();
        Check.due("adopt the last", x.adopt(5), 1);
        Check.due("adopt the last", x.mark(5, 39, 2), 7);
        Check.due("take the last", x.take(0, 39), 5);
        Check.due("what is left", x.told(1), 235);
        Check.due("silence behind all", x.silence(999, 999), 0);
        x.take(5, 39);
        Check.due("silence: the STOPS of 39 and 39", x.silence(0, 1), 77 + 39);
        Check.due("the last of all", x.mark(5, 38, 0), 999);
    }

    private static void goneMarks() {
        SpeechTiers x = Check.told("tier a free;tier p points;mark a 0 5 k;mark a 5 9 k;mark a 20 40 k;point p 7 k;");
        x.take(0, 1);
        x.take(0, 1);
        x.take(1, 0);
        Check.due("at", x.at(0, 20), -1);
        Check.due("at", x.at(1, 7), -1);
        all("over", what -> x.over(0, 4, 999, what), 1, 0, 1);
        all("over, a POINT", what -> x.over(1, 0, 999, what), 0, -1, 0);
        all("within", what -> x.within(0, 0, 1, what), 0, -1, 0);
        all("within", what -> x.within(0, 0, 0, what), 1, 0, 5);
        Check.due("find", x.find(0, 11, 1), -1);
        Check.due("together", x.together(0, 11, 0, 11), 5);
        all("longest", what -> x.longest(0, 11, what), 0, 5, 1, 5);
        all("gaps", what -> x.gaps(0, what), 0, -1, 0, 0);
        Check.due("stop", x.stop(0, 2), -1);
        Check.due("STOPS", x.tier(0, 7), 2);
        Check.due("STOPS of POINTS", x.tier(1, 7), 0);
        all("room", what -> x.room(0, 5, what), 1, 999);
        Check.missing("room", () -> x.room(0, 9, 0));
        Check.missing("move", () -> x.move(0, 40, 41));
        Check.state("join", () -> x.join(0, 0));
        Check.missing("mark", () -> x.mark(0, 1, 0));
        Check.due("put", x.put(0, 5, 40), 1);
        Check.due("no LABEL of those", x.mark(0, 1, 2), 0);
        Check.due("point", x.point(1, 7), 0);
        Check.due("no LABEL of those", x.mark(1, 0, 2), 0);
    }

    private static void goneTiers() {
        SpeechTiers x = Check.told("tier a free;tier b cut a;tier c in a;tier d points a;tier e points;tier f free;"
                + "mark a 0 900 k;mark c 3 7;point d 6;point e 990;mark f 50 999;");
        Check.tell(x, "tier a free;mark a 2 10;");
        Check.due("TIERS", x.told(0), 1);
        Check.due("MARKS", x.told(1), 1);
        Check.due("FAMILIES", x.told(2), 1);
        Check.due("TIERS right below", x.tier(0, 6), 0);
        Check.due("STOPS", x.tier(0, 7), 2);
        Check.due("stop", x.stop(0, 2), -1);
        all("mark", what -> x.mark(0, 0, what), 2, 10, 0, -1, 0, 1, 1);
        all("room", what -> x.room(0, 2, what), 0, 9);
        all("room", what -> x.room(0, 10, what), 3, 999);
        Check.missing("tier", () -> x.tier(1, 0));
        Check.due("split where IN was", x.split(0, 0, 5), 1);
        Check.due("silence", x.silence(2, 600), 2);
        Check.due("move", x.move(0, 605, 3), 2);
        Check.due("take", x.take(0, 0), 1);
        Check.due("keep", x.keep(), 1);
        Check.due("print", x.print(), (3 * 31L + 610) * 31 * 31);
        Check.due("undo", x.undo(), 3);
    }

    private static void goneOther() {
        SpeechTiers x = Check.told("tier a free;tier b free;mark a 0 5 k;mark a 7 9 l;mark b 0 9;");
        x.keep();
        x.take(0, 1);
        Check.due("keep", x.keep(), 2);
        x.undo();
        x.label(0, 1, 0);
        Check.due("adopt", x.adopt(0), 0);
        all("agree", what -> x.agree(0, what), 5, 0, 2, 0);
        all("same", what -> x.same(0, 0, what), 2, 0);
        Check.due("snap", x.snap(0, 1), 0);
        Check.tell(x, "tier a free;");
        Check.due("keep", x.keep(), 0);
        Check.tell(x, "tier a free;tier b free;mark a 7 9;mark b 0 9;");
        Check.due("no MARKS", x.agree(0, 2), 2);
        Check.due("no TIMES", x.snap(0, 999), 0);
        Check.due("no TIER of this NAME", x.agree(1, 0), -1);
        Check.due("no TIER of this NAME", x.adopt(1), -1);
    }

    // ---- promises 31, 32

    private static void printAndStatus() {
        Check.sentence("print: From 0 on, .. FROM, .. TO, .. LABEL; behind each TIER 31 times that", EdgeAskTest::print);
        Check.sentence("status: How many calls were refused: 0 NoSuchElementException", EdgeAskTest::statusMissing);
        Check.sentence("status: 1 IllegalArgumentException", EdgeAskTest::statusArgument);
        Check.sentence("status: 2 IllegalStateException", EdgeAskTest::statusState);
        Check.sentence("status: NONE for others", EdgeAskTest::statusNone);
    }

    private static void print() {
        Check.due("no TIERS", new SpeechTiers().print(), 0);
        Check.due("no MARKS", Check.told("tier a free;tier b free;").print(), 0);
        long one = (3 * 31L + 5) * 31 + 11;
        Check.due("one", Check.told("tier a free;mark a 3 5 k;").print(), one * 31);
        Check.due("a TIER behind it", Check.told("tier a free;mark a 3 5 k;tier b free;").print(), one * 31 * 31);
        Check.due("a TIER ahead of it", Check.told("tier b free;tier a free;mark a 3 5 k;").print(), one * 31);
        long two = ((one * 31 + 7) * 31 + 999) * 31;
        Check.due("two", Check.told("tier a free;mark a 3 5 k;mark a 7 999;").print(), two * 31);
        Check.due("POINTS", Check.told("tier p points;point p 9;").print(), (9 * 31L + 9) * 31 * 31);
        SpeechTiers x = Check.told("tier a free;");
        long sum = 0;
        for (int m = 0; m < 40; m++) {
            x.put(0, 2 * m, 2 * m + 1);
            sum = ((sum * 31 + 2 * m) * 31 + 2 * m + 1) * 31;
        }
        Check.due("beyond what a long holds", x.print(), sum * 31);
    }

    private static void statusMissing() {
        SpeechTiers x = new SpeechTiers();
        Check.due("none", x.status(0), 0);
        Check.missing("TIER", () -> x.tier(0, 0));
        Check.due("one", x.status(0), 1);
        Check.missing("TIER", () -> x.put(0, 9, 9));
        Check.due("counted by this reason alone", x.status(0), 2);
        Check.due("counted by this reason alone", x.status(1) + x.status(2), 0);
        Check.tell(x, "tier a free;mark a 0 5;");
        Check.missing("MARK", () -> x.mark(0, 1, 0));
        Check.missing("STOP", () -> x.move(0, 3, 4));
        Check.due("a TEXT leaves it", x.status(0), 4);
        x.undo();
        Check.due("undo leaves it", x.status(0), 4);
    }

    private static void statusArgument() {
        SpeechTiers x = Check.told("tier a free;mark a 0 5;");
        Check.due("none", x.status(1), 0);
        Check.argument("n", () -> x.text(1));
        Check.argument("what", () -> x.told(6));
        Check.argument("letters", () -> x.label(0, 0, 27));
        Check.due("three", x.status(1), 3);
        Check.due("counted by this reason alone", x.status(0) + x.status(2), 0);
        Check.tell(x, "-");
        x.find(0, 0, -1);
        x.stop(0, -1);
        x.status(-1);
        Check.due("a FAULT, NONE are no refusals", x.status(1), 3);
    }

    private static void statusState() {
        SpeechTiers x = Check.told("tier a free;mark a 0 5;");
        Check.due("none", x.status(2), 0);
        Check.state("LAWS", () -> x.put(0, 0, 5));
        Check.state("KIND", () -> x.point(0, 9));
        Check.state("no next one", () -> x.join(0, 0));
        Check.due("three", x.status(2), 3);
        Check.due("counted by this reason alone", x.status(0) + x.status(1), 0);
        x.feed(0, 0, 0, 0, 0);
        x.undo();
        Check.due("NONE is no refusal", x.status(2), 3);
    }

    private static void statusNone() {
        SpeechTiers x = new SpeechTiers();
        for (int what : new int[] {-1, 3, 4, MIN, MAX}) {
            Check.due("status(" + what + ")", x.status(what), -1);
        }
        Check.due("no refusal of its own", x.status(1), 0);
    }
}
