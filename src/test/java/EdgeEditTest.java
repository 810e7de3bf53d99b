/** The sentences of promises 5 to 16 that name a boundary, each with its test. */
public final class EdgeEditTest {
    private static final String PAIR = "tier a free;tier b cut a;tier c in a;tier p points a;tier q points;"
            + "mark a 10 20;mark a 20 30;";

    public static void main(String[] args) {
        putAndPoint();
        takeSplitJoin();
        moveSilenceLabel();
        adoptAndSnap();
        undoAndKeep();
        Check.finish();
    }

    private static SpeechTiers beside(String kept, String text) {
        SpeechTiers x = Check.told(kept);
        x.keep();
        Check.due("text '" + text + "'", Check.tell(x, text) < 0 ? 1 : 0, 0);
        return x;
    }

    // ---- promises 5, 6

    private static void putAndPoint() {
        Check.sentence("put: PUT, without a LABEL: its number", EdgeEditTest::putNumber);
        Check.sentence("put: NoSuchElementException: no such TIER (ahead of others)", EdgeEditTest::putNoTier);
        Check.sentence("put: IllegalArgumentException: not 0 to 999", EdgeEditTest::putNoTime);
        Check.sentence("put: IllegalArgumentException: TO not greater than FROM", EdgeEditTest::putNotGreater);
        Check.sentence("put: IllegalStateException: KIND", EdgeEditTest::putKind);
        Check.sentence("put: IllegalStateException: the LAWS", EdgeEditTest::putLaws);
        Check.sentence("put: IllegalStateException: 40 MARKS", EdgeEditTest::putForty);
        Check.sentence("put: IllegalStateException (behind others)", EdgeEditTest::putBehindOthers);
        Check.sentence("point: A POINT comes, without a LABEL: its number", EdgeEditTest::pointNumber);
        Check.sentence("point: refused as put is", EdgeEditTest::pointRefused);
    }

    private static void putNumber() {
        SpeechTiers x = Check.told("tier a free;mark a 10 20 k;");
        Check.due("ahead", x.put(0, 0, 10), 0);
        Check.due("behind", x.put(0, 998, 999), 2);
        Check.due("between", x.put(0, 20, 998), 2);
        Check.marks("without a LABEL", x, 0, "0-10 10-20:k 20-998 998-999");
        Check.due("acts", x.told(3), 3);
    }

    private static void putNoTier() {
        SpeechTiers x = Check.told("tier a free;");
        Check.missing("-1", () -> x.put(-1, 0, 1));
        Check.missing("as many as there are", () -> x.put(1, 0, 1));
        Check.missing("ahead of IllegalArgumentException", () -> x.put(1, 5, -1));
        Check.missing("the least", () -> x.put(Integer.MIN_VALUE, 0, 1));
        Check.missing("the greatest", () -> x.put(Integer.MAX_VALUE, 0, 1));
        Check.due("counted", x.status(0), 5);
        Check.due("no act", x.told(3), 0);
    }

    private static void putNoTime() {
        SpeechTiers x = Check.told("tier a free;");
        Check.argument("FROM -1", () -> x.put(0, -1, 5));
        Check.argument("TO 1000", () -> x.put(0, 5, 1000));
        Check.argument("FROM 1000", () -> x.put(0, 1000, 1001));
        Check.argument("both below", () -> x.put(0, -2, -1));
        Check.argument("the least", () -> x.put(0, Integer.MIN_VALUE, 5));
        Check.argument("the greatest", () -> x.put(0, 5, Integer.MAX_VALUE));
        Check.due("counted", x.status(1), 6);
        Check.due("no act", x.told(3), 0);
        Check.due("0 and 999", x.put(0, 0, 999), 0);
    }

    private static void putNotGreater() {
        SpeechTiers x = Check.told("tier a free;");
        Check.argument("alike", () -> x.put(0, 7, 7));
        Check.argument("less", () -> x.put(0, 7, 6));
        Check.argument("alike, 0", () -> x.put(0, 0, 0));
        Check.argument("alike, 999", () -> x.put(0, 999, 999));
        Check.due("nothing came", x.told(1), 0);
        Check.due("one more", x.put(0, 7, 8), 0);
    }

    private static void putKind() {
        SpeechTiers x = Check.told(PAIR);
        Check.state("CUT", () -> x.put(1, 40, 50));
        Check.state("CUT, in a MARK of the PARENT", () -> x.put(1, 12, 14));
        Check.state("POINTS with a PARENT", () -> x.put(3, 12, 14));
        Check.state("POINTS without", () -> x.put(4, 12, 14));
        Check.due("counted", x.status(2), 4);
        Check.due("IN", x.put(2, 12, 14), 0);
    }

    private static void putLaws() {
        SpeechTiers x = Check.told(PAIR);
        long print = x.print();
        Check.state("FREE, overlapping", () -> x.put(0, 29, 31));
        Check.state("IN, in none", () -> x.put(2, 30, 31));
        Check.state("IN, in two", () -> x.put(2, 19, 21));
        Check.due("nothing changed", x.print(), print);
        Check.due("no act", x.told(3), 0);
        Check.due("FREE, touching", x.put(0, 30, 31), 2);
        Check.due("IN, in it now", x.put(2, 30, 31), 0);
        Check.state("IN, overlapping", () -> x.put(2, 30, 31));
    }

    private static void putForty() {
        SpeechTiers x = Check.told("tier a free;");
        Check.fill(x, 0);
        Check.state("a 41st", () -> x.put(0, 100, 101));
        Check.due("40", x.told(1), 40);
    }

    private static void putBehindOthers() {
        SpeechTiers x = Check.told(PAIR);
        Check.argument("KIND, and a TIME", () -> x.put(1, 0, 1000));
        Check.argument("LAWS, and TO", () -> x.put(0, 15, 15));
        Check.missing("a TIER, and a TIME", () -> x.put(5, 0, 1000));
    }

    private static void pointNumber() {
        SpeechTiers x = Check.told(PAIR);
        Check.due("the first", x.point(4, 500), 0);
        Check.due("at 0", x.point(4, 0), 0);
        Check.due("at 999", x.point(4, 999), 2);
        Check.due("of a PARENT, at FROM", x.point(3, 10), 0);
        Check.due("of a PARENT, at TO", x.point(3, 30), 1);
        Check.due("of a PARENT, where two touch", x.point(3, 20), 1);
        Check.marks("without a LABEL", x, 3, "10-10 20-20 30-30");
    }

    private static void pointRefused() {
        SpeechTiers x = Check.told(PAIR + "point p 12;");
        Check.missing("no TIER", () -> x.point(5, 12));
        Check.missing("ahead of others", () -> x.point(-1, -1));
        Check.argument("-1", () -> x.point(4, -1));
        Check.argument("1000", () -> x.point(4, 1000));
        Check.argument("ahead of KIND", () -> x.point(0, 1000));
        Check.state("FREE", () -> x.point(0, 12));
        Check.state("CUT", () -> x.point(1, 12));
        Check.state("IN", () -> x.point(2, 12));
        Check.state("the same TIME", () -> x.point(3, 12));
        Check.state("in no MARK of the PARENT, ahead", () -> x.point(3, 9));
        Check.state("in no MARK of the PARENT, behind", () -> x.point(3, 31));
        for (int m = 0; m < 40; m++) {
            x.point(4, m);
        }
        Check.state("a 41st", () -> x.point(4, 40));
        Check.due("NoSuchElementException", x.status(0), 2);
        Check.due("IllegalArgumentException", x.status(1), 3);
        Check.due("IllegalStateException", x.status(2), 7);
    }

    // ---- promises 7 to 9

    private static void takeSplitJoin() {
        Check.sentence("take: TAKEN AWAY: how many MARKS go in all", EdgeEditTest::takeHowMany);
        Check.sentence("take: no such TIER, MARK; not the only one there", EdgeEditTest::takeRefused);
        Check.sentence("split: (of POINTS: IllegalStateException, whatever the TIME)", EdgeEditTest::splitOfPoints);
        Check.sentence("split: (else IllegalArgumentException: the TIME is not between)", EdgeEditTest::splitNotBetween);
        Check.sentence("split: how many MARKS are more", EdgeEditTest::splitHowMany);
        Check.sentence("split: no such TIER, MARK; IN below, 40 MARKS", EdgeEditTest::splitRefused);
        Check.sentence("join: JOINED with the next one: TO then", EdgeEditTest::joinTo);
        Check.sentence("join: (IllegalStateException: there is none, it does not touch, POINTS, too)",
                EdgeEditTest::joinRefused);
    }

    private static void takeHowMany() {
        SpeechTiers x = Check.told(PAIR + "split b 15;mark c 10 12;mark c 18 20;point p 10;point p 20;point q 15;");
        Check.due("a POINT", x.take(4, 0), 1);
        Check.due("a MARK of CUT", x.take(1, 0), 1);
        Check.due("a MARK of IN", x.take(2, 1), 1);
        Check.due("a MARK of FREE, one of CUT, one of IN, one POINT", x.take(0, 0), 4);
        Check.due("the last, one of CUT, one POINT", x.take(0, 0), 3);
        Check.due("none is left", x.told(1), 0);
        Check.due("acts", x.told(3), 5);
    }

    private static void takeRefused() {
        SpeechTiers x = Check.told(PAIR);
        Check.missing("TIER -1", () -> x.take(-1, 0));
        Check.missing("TIER 5", () -> x.take(5, 0));
        Check.missing("MARK -1", () -> x.take(0, -1));
        Check.missing("MARK 2 of 2", () -> x.take(0, 2));
        Check.missing("MARK 0 of none", () -> x.take(2, 0));
        Check.missing("a MARK of CUT that is not there", () -> x.take(1, 2));
        Check.missing("the greatest", () -> x.take(0, Integer.MAX_VALUE));
        Check.state("the only one there", () -> x.take(1, 0));
        Check.state("the only one there", () -> x.take(1, 1));
        Check.due("no act", x.told(3), 0);
    }

    private static void splitOfPoints() {
        SpeechTiers x = Check.told(PAIR + "point q 5;");
        for (int time : new int[] {5, 4, 0, -1, 1000, Integer.MIN_VALUE, Integer.MAX_VALUE}) {
            Check.state("TIME " + time, () -> x.split(4, 0, time));
        }
        Check.missing("not a POINT that is not there", () -> x.split(4, 1, 5));
        Check.due("IllegalArgumentException", x.status(1), 0);
        Check.due("IllegalStateException", x.status(2), 7);
    }

    private static void splitNotBetween() {
        SpeechTiers x = Check.told(PAIR + "mark c 11 19;");
        Check.argument("FROM", () -> x.split(0, 0, 10));
        Check.argument("TO", () -> x.split(0, 0, 20));
        Check.argument("of another MARK", () -> x.split(0, 0, 25));
        Check.argument("no TIME", () -> x.split(0, 0, -1));
        Check.argument("no TIME", () -> x.split(0, 0, 1000));
        Check.argument("FROM of CUT", () -> x.split(1, 1, 20));
        Check.argument("TO of CUT", () -> x.split(1, 1, 30));
        Check.argument("the least", () -> x.split(0, 0, Integer.MIN_VALUE));
        Check.argument("the greatest", () -> x.split(0, 0, Integer.MAX_VALUE));
        Check.due("no act", x.told(3), 0);
        Check.due("the last one between", x.split(0, 0, 19), 2);
        Check.due("the first one between", x.split(0, 0, 11), 2);
    }

    private static void splitHowMany() {
        SpeechTiers x = Check.told("tier a free;tier b cut a;tier c cut b;tier d cut a;tier e in a;mark a 0 10;split c 5;");
        Check.due("c has it already", x.split(0, 0, 5), 3);
        Check.due("all four", x.split(0, 0, 4), 4);
        Check.due("two", x.split(1, 0, 3), 2);
        Check.due("one", x.split(2, 0, 2), 1);
        Check.due("in all", x.told(1), 3 + 4 + 5 + 3);
    }

    private static void splitRefused() {
        SpeechTiers x = Check.told(PAIR + "mark c 12 15;");
        Check.missing("TIER", () -> x.split(5, 0, 12));
        Check.missing("MARK", () -> x.split(0, 2, 12));
        Check.missing("MARK -1, ahead of the TIME", () -> x.split(0, -1, -1));
        Check.state("IN below has it", () -> x.split(0, 0, 13));
        Check.argument("not between, ahead of IN", () -> x.split(0, 1, 13));
        SpeechTiers y = Check.told("tier a free;tier b cut a;mark a 0 50;");
        for (int m = 0; m < 39; m++) {
            y.split(1, m, m + 1);
        }
        Check.state("a 41st below", () -> y.split(0, 0, 45));
        Check.state("a 41st", () -> y.split(1, 39, 45));
        Check.argument("not between, ahead of 40", () -> y.split(1, 39, 50));
        Check.due("none more below", y.split(0, 0, 39), 1);
    }

    private static void joinTo() {
        SpeechTiers x = Check.told("tier a free;mark a 0 1;mark a 1 2;mark a 2 999;");
        Check.due("TO of the next", x.join(0, 0), 2);
        Check.due("TO of the last", x.join(0, 0), 999);
        Check.due("one MARK", x.told(1), 1);
        Check.due("acts", x.told(3), 2);
    }

    private static void joinRefused() {
        SpeechTiers x = Check.told(PAIR + "mark a 31 40;point q 5;point q 6;point p 10;");
        Check.state("there is none", () -> x.join(0, 2));
        Check.state("it does not touch", () -> x.join(0, 1));
        Check.state("POINTS with a next one", () -> x.join(4, 0));
        Check.state("POINTS without", () -> x.join(4, 1));
        Check.state("POINTS of a PARENT", () -> x.join(3, 0));
        Check.state("another one of the PARENT", () -> x.join(1, 0));
        Check.missing("TIER", () -> x.join(5, 0));
        Check.missing("MARK", () -> x.join(0, 3));
        Check.missing("MARK -1", () -> x.join(0, -1));
        Check.missing("a POINT that is not there", () -> x.join(4, 2));
        Check.missing("the greatest", () -> x.join(0, Integer.MAX_VALUE));
        Check.due("no act", x.told(3), 0);
        Check.due("IllegalStateException", x.status(2), 6);
    }

    // ---- promises 10 to 12

    private static void moveSilenceLabel() {
        Check.sentence("move: MOVED, of the FAMILY of a TIER: how many ends of MARKS, and POINTS",
                EdgeEditTest::moveHowMany);
        Check.sentence("move: (NoSuchElementException: no STOP at that TIME)", EdgeEditTest::moveNoStop);
        Check.sentence("move: (IllegalArgumentException: not 0 to 999)", EdgeEditTest::moveNoTime);
        Check.sentence("move: (IllegalStateException: not between its neighbours)", EdgeEditTest::moveNeighbours);
        Check.sentence("silence: (length 1 to 999)", EdgeEditTest::silenceLength);
        Check.sentence("silence: IllegalArgumentException: TIME not 0 to 999", EdgeEditTest::silenceTime);
        Check.sentence("silence: how many STOPS of all FAMILIES together moved", EdgeEditTest::silenceHowMany);
        Check.sentence("silence: (IllegalStateException: one would be above 999)", EdgeEditTest::silenceAbove);
        Check.sentence("label: LABEL of a MARK from now on: what it was", EdgeEditTest::labelWas);
        Check.sentence("label: (as a number; IllegalArgumentException: no such letters)", EdgeEditTest::labelLetters);
        Check.sentence("label: no such TIER, MARK", EdgeEditTest::labelMissing);
    }

    private static void moveHowMany() {
        SpeechTiers x = Check.told(PAIR + "mark c 10 12;point p 20;point q 20;");
        Check.due("FROM of a, b, c", x.move(3, 10, 9), 3);
        Check.due("two of a, two of b, one POINT", x.move(0, 20, 21), 5);
        Check.due("TO of c alone", x.move(1, 12, 13), 1);
        Check.due("a POINT alone", x.move(4, 20, 19), 1);
        Check.due("acts", x.told(3), 4);
    }

    private static void moveNoStop() {
        SpeechTiers x = Check.told(PAIR + "point q 15;");
        Check.missing("none there", () -> x.move(0, 11, 12));
        Check.missing("one of another FAMILY", () -> x.move(0, 15, 16));
        Check.missing("one of another FAMILY", () -> x.move(4, 10, 11));
        Check.missing("-1", () -> x.move(0, -1, 0));
        Check.missing("ahead of the TIME", () -> x.move(0, 11, 1000));
        Check.missing("TIER", () -> x.move(5, 10, 11));
        Check.missing("the least", () -> x.move(0, Integer.MIN_VALUE, 5));
        Check.missing("the greatest", () -> x.move(0, Integer.MAX_VALUE, 5));
        Check.due("counted", x.status(0), 8);
        Check.missing("no STOP at all", () -> Check.told("tier a free;").move(0, 0, 1));
    }

    private static void moveNoTime() {
        SpeechTiers x = Check.told(PAIR);
        Check.argument("-1", () -> x.move(0, 10, -1));
        Check.argument("1000", () -> x.move(0, 30, 1000));
        Check.argument("not between neither", () -> x.move(0, 20, 1000));
        Check.argument("the least", () -> x.move(0, 20, Integer.MIN_VALUE));
        Check.argument("the greatest", () -> x.move(0, 20, Integer.MAX_VALUE));
        Check.due("0", x.move(0, 10, 0), 2);
        Check.due("999", x.move(0, 30, 999), 2);
    }

    private static void moveNeighbours() {
        SpeechTiers x = Check.told(PAIR);
        long print = x.print();
        Check.state("the one ahead", () -> x.move(0, 20, 10));
        Check.state("the one behind", () -> x.move(0, 20, 30));
        Check.state("the first one, past the second", () -> x.move(0, 10, 20));
        Check.state("the last one, past the one ahead", () -> x.move(0, 30, 20));
        Check.due("nothing changed", x.print(), print);
        Check.due("no act", x.told(3), 0);
        Check.due("beside the one ahead", x.move(0, 20, 11), 4);
        Check.due("beside the one behind", x.move(0, 11, 29), 4);
        Check.due("where it is already", x.move(0, 29, 29), 4);
        Check.due("acts", x.told(3), 3);
    }

    private static void silenceLength() {
        SpeechTiers x = Check.told("tier p points;tier a free;point p 0;");
        Check.argument("0", () -> x.silence(0, 0));
        Check.argument("-1", () -> x.silence(0, -1));
        Check.argument("1000", () -> x.silence(0, 1000));
        Check.argument("the greatest", () -> x.silence(0, Integer.MAX_VALUE));
        Check.due("1", x.silence(0, 1), 0);
        Check.due("999", x.silence(0, 999), 0);
        Check.due("acts, though nothing moved", x.told(3), 2);
    }

    private static void silenceTime() {
        SpeechTiers x = Check.told("tier p points;point p 1;point p 998;");
        Check.argument("-1", () -> x.silence(-1, 1));
        Check.argument("1000", () -> x.silence(1000, 1));
        Check.argument("the least", () -> x.silence(Integer.MIN_VALUE, 1));
        Check.due("0", x.silence(0, 1), 2);
        Check.due("999", x.silence(999, 1), 0);
        Check.marks("moved once", x, 0, "2-2 999-999");
    }

    private static void silenceHowMany() {
        SpeechTiers x = Check.told(PAIR + "point p 20;point p 25;point q 20;point q 30;");
        Check.due("20, 25, 30 of one, 20, 30 of the other", x.silence(19, 1), 5);
        Check.due("26, 31 of one, 31 of the other", x.silence(21, 1), 3);
        Check.due("none", x.silence(32, 1), 0);
        Check.due("no TIERS", new SpeechTiers().silence(0, 1), 0);
    }

    private static void silenceAbove() {
        SpeechTiers x = Check.told(PAIR + "point q 50;");
        long print = x.print();
        Check.state("by one, the POINT", () -> x.silence(0, 950));
        Check.due("nothing changed", x.print(), print);
        Check.due("no act", x.told(3), 0);
        Check.due("to 999", x.silence(0, 949), 4);
        Check.state("one more", () -> x.silence(998, 1));
        Check.due("behind the last", x.silence(999, 999), 0);
        SpeechTiers y = Check.told("tier q points;tier a free;point q 5;mark a 0 999;");
        Check.state("by one, the MARK", () -> y.silence(0, 1));
        Check.state("by one, the MARK alone", () -> y.silence(998, 1));
        Check.argument("ahead of it", () -> y.silence(0, 1000));
        SpeechTiers z = Check.told("tier a free;tier b free;mark a 0 999;");
        Check.state("the first TIER alone", () -> z.silence(0, 1));
        SpeechTiers w = Check.told("tier a free;tier b free;mark b 0 5;mark b 6 999;");
        Check.state("the last TIER alone", () -> w.silence(0, 1));
        Check.due("none of those behind the TIME", w.silence(999, 1), 0);
    }

    private static void labelWas() {
        SpeechTiers x = Check.told("tier a free;tier p points;mark a 0 5 abcd;point p 9;");
        Check.due("abcd", x.label(0, 0, 0), Check.letters("abcd"));
        Check.due("none", x.label(0, 0, 26), 0);
        Check.due("z", x.label(0, 0, Check.letters("zzzz")), 26);
        Check.due("the same again", x.label(0, 0, Check.letters("zzzz")), Check.letters("zzzz"));
        Check.due("of a POINT", x.label(1, 0, 1), 0);
        Check.marks("from now on", x, 0, "0-5:zzzz");
        Check.marks("from now on", x, 1, "9-9:a");
        Check.due("acts", x.told(3), 5);
    }

    private static void labelLetters() {
        SpeechTiers x = Check.told("tier a free;mark a 0 5 k;");
        int[] none = {-1, Integer.MIN_VALUE, Integer.MAX_VALUE, 27, 31, 32, 64, 1 << 10, 1 << 15, 1 << 20,
            27 << 5 | 1, 1 << 5 | 27, 1 << 10 | 1, 1 << 15 | 1 << 5 | 1, 27 << 15 | 1 << 10 | 1 << 5 | 1,
            Check.letters("aaaaa"), Check.letters("zzzzz"), Check.letters("zzzz") + 1};
        for (int letters : none) {
            Check.argument("letters " + letters, () -> x.label(0, 0, letters));
        }
        Check.due("no act", x.told(3), 0);
        Check.marks("it stays", x, 0, "0-5:k");
        int[] some = {0, 1, 26, 33, Check.letters("az"), Check.letters("zza"), Check.letters("aaaa"),
            Check.letters("zzzz")};
        for (int letters : some) {
            x.label(0, 0, letters);
            Check.due("letters " + letters, x.mark(0, 0, 2), letters);
        }
    }

    private static void labelMissing() {
        SpeechTiers x = Check.told("tier a free;mark a 0 5 k;");
        Check.missing("TIER", () -> x.label(1, 0, 1));
        Check.missing("TIER -1", () -> x.label(-1, 0, 1));
        Check.missing("MARK", () -> x.label(0, 1, 1));
        Check.missing("MARK -1, ahead of letters", () -> x.label(0, -1, -1));
    }

    // ---- promises 13, 14

    private static void adoptAndSnap() {
        Check.sentence("adopt: Each MARK of a TIER without a LABEL takes that of a MARK with the same FROM and TO",
                EdgeEditTest::adoptSame);
        Check.sentence("adopt: if there is such with one: how many (no act, if 0)", EdgeEditTest::adoptNone);
        Check.sentence("adopt: THE OTHER's TIER of the same NAME; NONE: there is none such TIER",
                EdgeEditTest::adoptNoTier);
        Check.sentence("snap: each that is none of THE OTHER's is MOVED to the nearest of these",
                EdgeEditTest::snapNearest);
        Check.sentence("snap: (of two alike near the earlier one)", EdgeEditTest::snapEarlier);
        Check.sentence("snap: if that is so much (1 to 999) apart at most", EdgeEditTest::snapApart);
        Check.sentence("snap: and it can be MOVED there then", EdgeEditTest::snapThen);
        Check.sentence("snap: in order as they are at first", EdgeEditTest::snapOrder);
        Check.sentence("snap: how many (no act, if 0)", EdgeEditTest::snapNoAct);
        Check.sentence("snap: NONE: there is none such TIER", EdgeEditTest::snapNoTier);
    }

    private static void adoptSame() {
        SpeechTiers x = beside("tier a free;mark a 0 5 k;mark a 5 9 l;mark a 10 20 m;mark a 20 30 n;mark a 40 50 o;",
                "tier a free;mark a 0 5;mark a 5 8;mark a 11 20;mark a 20 30 z;mark a 40 50;");
        Check.due("two", x.adopt(0), 2);
        Check.marks("not of unlike ends, not of those with a LABEL", x, 0, "0-5:k 5-8 11-20 20-30:z 40-50:o");
        Check.due("one act for both", x.undo(), 0);
        Check.marks("taken back", x, 0, "0-5 5-8 11-20 20-30:z 40-50");
        SpeechTiers y = beside("tier p points;point p 5 k;", "tier p points;point p 5;point p 6;");
        Check.due("POINTS", y.adopt(0), 1);
        Check.marks("POINTS", y, 0, "5-5:k 6-6");
    }

    private static void adoptNone() {
        SpeechTiers x = beside("tier a free;mark a 0 5;", "tier a free;mark a 0 5;");
        Check.due("such without one", x.adopt(0), 0);
        Check.due("no act", x.told(3), 0);
        x = beside("tier a free;", "tier a free;mark a 0 5;");
        Check.due("none such", x.adopt(0), 0);
        x = beside("tier a free;mark a 0 5 k;", "tier a free;");
        Check.due("no MARKS here", x.adopt(0), 0);
        Check.due("no act", x.told(3), 0);
    }

    private static void adoptNoTier() {
        SpeechTiers x = beside("tier b free;mark b 0 5 k;tier ab free;", "tier a free;mark a 0 5;tier b free;mark b 0 5;");
        Check.due("none of this NAME", x.adopt(0), -1);
        Check.due("of another number", x.adopt(1), 1);
        Check.missing("TIER", () -> x.adopt(2));
        Check.missing("TIER -1", () -> x.adopt(-1));
        SpeechTiers y = Check.told("tier a free;mark a 0 5;");
        Check.due("no THE OTHER", y.adopt(0), -1);
        Check.missing("ahead of NONE", () -> y.adopt(1));
        Check.due("no act", y.told(3), 0);
    }

    private static void snapNearest() {
        SpeechTiers x = beside("tier a free;mark a 10 20;mark a 30 40;", "tier a free;mark a 10 21;mark a 34 37;");
        // 10 is one of theirs; 21 is nearest to 20, 34 to 30, 37 to 40
        Check.due("three", x.snap(0, 999), 3);
        Check.marks("there", x, 0, "10-20 30-40");
        Check.due("one act for all", x.undo(), 0);
        Check.marks("taken back", x, 0, "10-21 34-37");
        SpeechTiers y = beside("tier a free;mark a 10 20;mark a 30 40;", "tier a free;mark a 20 29;mark a 30 31;");
        Check.due("those that are of theirs stay", y.snap(0, 999), 0);
        Check.marks("29 can't go to 30, 31 not", y, 0, "20-29 30-31");
    }

    private static void snapEarlier() {
        SpeechTiers x = beside("tier p points;point p 10;point p 20;", "tier p points;point p 15;");
        Check.due("one", x.snap(0, 5), 1);
        Check.marks("the earlier one", x, 0, "10-10");
        x = beside("tier p points;point p 10;point p 21;", "tier p points;point p 16;");
        x.snap(0, 999);
        Check.marks("the nearer one", x, 0, "21-21");
        // the earlier one is the nearest, though it can't be MOVED there and could to the later one
        x = beside("tier a free;mark a 10 20;", "tier a free;tier p points a;mark a 0 15;point p 12;");
        Check.due("0 alone", x.snap(0, 10), 1);
        Check.marks("15 stays", x, 0, "10-15");
    }

    private static void snapApart() {
        SpeechTiers x = beside("tier p points;point p 10;", "tier p points;point p 15;");
        Check.argument("0", () -> x.snap(0, 0));
        Check.argument("-1", () -> x.snap(0, -1));
        Check.argument("1000", () -> x.snap(0, 1000));
        Check.due("one too few", x.snap(0, 4), 0);
        Check.due("as many", x.snap(0, 5), 1);
        SpeechTiers y = beside("tier p points;point p 0;", "tier p points;point p 999;");
        Check.due("998", y.snap(0, 998), 0);
        Check.due("999", y.snap(0, 999), 1);
        SpeechTiers z = beside("tier p points;point p 5;", "tier p points;point p 6;");
        Check.due("1", z.snap(0, 1), 1);
        SpeechTiers w = Check.told("tier p points;");
        Check.argument("ahead of NONE", () -> w.snap(0, 0));
    }

    private static void snapThen() {
        // 25 can't go to 20: the POINT of the FAMILY at 22 is between
        SpeechTiers x = beside("tier a free;mark a 10 20;",
                "tier a free;tier p points a;tier q points;mark a 10 25;point p 22;point q 22;");
        Check.due("a STOP of the FAMILY in the way", x.snap(0, 9), 0);
        x.take(1, 0);
        Check.due("one of another FAMILY is none", x.snap(0, 9), 1);
        // 12 can't go to 14 as long as 13 is there; 13 goes then; 12 is not looked at again
        x = beside("tier p points;point p 14;point p 50;", "tier p points;point p 12;point p 13;");
        Check.due("13 alone", x.snap(0, 9), 1);
        Check.marks("13 alone", x, 0, "12-12 14-14");
    }

    private static void snapOrder() {
        // both are nearest to 20: the first one takes it
        SpeechTiers x = beside("tier p points;point p 20;", "tier p points;point p 18;point p 21;");
        Check.due("one", x.snap(0, 9), 1);
        Check.marks("the first one", x, 0, "20-20 21-21");
        // 5, alike near to 3 and 7, would go to 3, too, where 4 is then
        x = beside("tier p points;point p 3;point p 7;", "tier p points;point p 4;point p 5;");
        Check.due("one", x.snap(0, 9), 1);
        Check.marks("the first one", x, 0, "3-3 5-5");
        // FROM of a MARK ahead of its TO
        x = beside("tier a free;mark a 0 20;", "tier a free;mark a 18 22;");
        Check.due("one", x.snap(0, 9), 1);
        Check.marks("FROM", x, 0, "20-22");
    }

    private static void snapNoAct() {
        SpeechTiers x = beside("tier p points;point p 3;", "tier p points;point p 9;");
        Check.due("too far", x.snap(0, 1), 0);
        Check.due("no act", x.told(3), 0);
        Check.due("near", x.snap(0, 6), 1);
        Check.due("an act", x.told(3), 1);
        Check.due("there already", x.snap(0, 6), 0);
        Check.due("no act", x.told(3), 1);
        SpeechTiers y = beside("tier p points;", "tier p points;point p 9;");
        Check.due("no TIMES there", y.snap(0, 999), 0);
        SpeechTiers z = beside("tier p points;point p 9;", "tier p points;");
        Check.due("no TIMES here", z.snap(0, 999), 0);
    }

    private static void snapNoTier() {
        SpeechTiers x = beside("tier b points;point b 3;", "tier a points;point a 5;");
        Check.due("none of this NAME", x.snap(0, 9), -1);
        Check.missing("TIER", () -> x.snap(1, 9));
        Check.missing("ahead of others", () -> x.snap(-1, 0));
        Check.due("no THE OTHER", Check.told("tier a points;").snap(0, 9), -1);
    }

    // ---- promises 15, 16

    private static void undoAndKeep() {
        Check.sentence("undo: All is as ahead of the latest put(), point(), take(), split(), join(), move(), silence(),"
                + " label(), adopt(), snap()", EdgeEditTest::undoEach);
        Check.sentence("undo: (the latest 12 can be taken back): how many still can", EdgeEditTest::undoTwelve);
        Check.sentence("undo: NONE: none could", EdgeEditTest::undoNone);
        Check.sentence("undo: a refused call is no act", EdgeEditTest::undoRefused);
        Check.sentence("keep: All TIERS and MARKS are THE OTHER from now on: how many MARKS", EdgeEditTest::keep);
    }

    private static void undoEach() {
        SpeechTiers x = beside(PAIR + "label a 10 k;mark a 40 50;", PAIR + "split b 15;point p 12;mark a 41 50;");
        undoOne(x, "put", () -> x.put(0, 60, 70));
        undoOne(x, "point", () -> x.point(4, 0));
        undoOne(x, "take", () -> x.take(0, 0));
        undoOne(x, "take of a piece", () -> x.take(1, 0));
        undoOne(x, "split", () -> x.split(0, 0, 11));
        undoOne(x, "join", () -> x.join(0, 0));
        undoOne(x, "move", () -> x.move(0, 20, 19));
        undoOne(x, "silence", () -> x.silence(0, 5));
        undoOne(x, "label", () -> x.label(0, 0, 5));
        undoOne(x, "adopt", () -> x.adopt(0));
        undoOne(x, "snap", () -> x.snap(0, 5));
    }

    private static void undoOne(SpeechTiers x, String name, Check.Call act) {
        long print = x.print();
        int before = x.told(3);
        act.answer();
        Check.due(name + " changes", x.print() == print ? 1 : 0, 0);
        Check.due(name + " is an act", x.told(3), before + 1);
        Check.due("undo of " + name, x.undo(), before);
        Check.due(name + " is taken back", x.print(), print);
    }

    private static void undoTwelve() {
        SpeechTiers x = Check.told("tier p points;");
        for (int i = 0; i < 12; i++) {
            x.point(0, i);
            Check.due("acts", x.told(3), i + 1);
        }
        x.point(0, 12);
        Check.due("a 13th", x.told(3), 12);
        x.point(0, 13);
        Check.due("a 14th", x.told(3), 12);
        for (int i = 11; i >= 0; i--) {
            Check.due("undo", x.undo(), i);
            Check.due("POINTS", x.tier(0, 2), i + 2);
        }
        Check.due("the first two stay", x.undo(), -1);
        Check.due("the first two stay", x.told(1), 2);
        x.point(0, 500);
        Check.due("an act again", x.undo(), 0);
        Check.due("the first two stay", x.told(1), 2);
    }

    private static void undoNone() {
        SpeechTiers x = new SpeechTiers();
        Check.due("a new object", x.undo(), -1);
        Check.tell(x, "tier p points;point p 5;");
        Check.due("behind a TEXT", x.undo(), -1);
        Check.due("all stays", x.told(1), 1);
        x.take(0, 0);
        Check.due("one", x.undo(), 0);
        Check.due("no second", x.undo(), -1);
        Check.due("no third", x.undo(), -1);
        Check.due("all stays", x.told(1), 1);
        Check.due("no refusal is counted", x.status(0) + x.status(1) + x.status(2), 0);
    }

    private static void undoRefused() {
        SpeechTiers x = Check.told(PAIR + "point q 5;");
        Check.state("put", () -> x.put(0, 10, 20));
        Check.state("point", () -> x.point(4, 5));
        Check.state("take", () -> x.take(1, 0));
        Check.state("split", () -> x.split(4, 0, 5));
        Check.state("join", () -> x.join(1, 0));
        Check.state("move", () -> x.move(0, 20, 30));
        Check.state("silence", () -> x.silence(0, 999));
        Check.argument("label", () -> x.label(0, 0, 27));
        Check.missing("adopt", () -> x.adopt(9));
        Check.argument("snap", () -> x.snap(0, 0));
        Check.due("none could", x.undo(), -1);
    }

    private static void keep() {
        SpeechTiers x = new SpeechTiers();
        Check.due("none", x.keep(), 0);
        Check.due("there is one, without MARKS", x.told(5), 0);
        Check.tell(x, "tier a free;tier p points;mark a 0 5;point p 3;");
        Check.due("none there of this NAME", x.agree(0, 0), -1);
        x.put(0, 5, 9);
        Check.due("three", x.keep(), 3);
        Check.due("what can be taken back stays", x.told(3), 1);
        x.undo();
        Check.due("it stays", x.told(5), 3);
        Check.due("it stays", x.agree(0, 3), 4);
        Check.due("from now on these", x.keep(), 2);
        Check.due("from now on these", x.agree(0, 3), 0);
    }
}
