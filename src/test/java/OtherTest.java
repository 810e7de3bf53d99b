/** Promises 13, 14, 16, 29 and 30: another one's marks laid beside these. */
public final class OtherTest {
    public static void main(String[] args) {
        keeps();
        none();
        gone();
        adopts();
        snaps();
        snapsInOrder();
        agrees();
        sames();
        Check.finish();
    }

    private static SpeechTiers beside(String kept, String text) {
        SpeechTiers x = Check.told(kept);
        x.keep();
        Check.tell(x, text);
        return x;
    }

    private static void keeps() {
        SpeechTiers x = new SpeechTiers();
        Check.due("keep nothing", x.keep(), 0);
        Check.due("told(5)", x.told(5), 0);
        Check.tell(x, "tier a free;mark a 0 5;mark a 7 9;");
        Check.due("keep", x.keep(), 2);
        x.put(0, 20, 30);
        Check.due("the other stays", x.told(5), 2);
        Check.due("agree", x.agree(0, 2), 10);
        x.take(0, 0);
        Check.due("agree", x.agree(0, 3), 5);
        x.keep();
        x.undo();
        Check.due("undo leaves the other", x.agree(0, 2), 5);
        Check.due("told(5)", x.told(5), 2);
        Check.due("what can be taken back stays", x.told(3), 1);
    }

    private static void none() {
        SpeechTiers x = Check.told("tier a free;mark a 0 5;");
        noneOf(x);
        x = beside("tier b free;mark b 0 5;", "tier a free;mark a 0 5;");
        noneOf(x);
        SpeechTiers y = x;
        Check.missing("adopt", () -> y.adopt(1));
        Check.missing("snap", () -> y.snap(1, 0));
        Check.missing("agree", () -> y.agree(1, 4));
        Check.missing("same", () -> y.same(-1, -1, 4));
        Check.argument("snap", () -> y.snap(0, 0));
        Check.argument("snap", () -> y.snap(0, 1000));
        Check.argument("agree", () -> y.agree(0, 4));
        Check.argument("agree", () -> y.agree(0, -1));
        Check.argument("same, apart", () -> y.same(0, -1, 0));
        Check.argument("same, apart", () -> y.same(0, 1000, 0));
        Check.argument("same, what", () -> y.same(0, 0, 2));
        Check.argument("same, what", () -> y.same(0, 0, -1));
    }

    private static void noneOf(SpeechTiers x) {
        Check.due("adopt", x.adopt(0), -1);
        Check.due("snap", x.snap(0, 999), -1);
        Check.due("agree", x.agree(0, 0), -1);
        Check.due("same", x.same(0, 999, 1), -1);
        Check.due("no act", x.told(3), 0);
    }

    /** Marks that were taken away ahead of keep() are nowhere in the other. */
    private static void gone() {
        SpeechTiers x = Check.told("tier a free;tier p points;mark a 0 5;mark a 7 9 k;point p 5;point p 9;");
        x.keep();
        x.snap(1, 5);
        x.take(0, 1);
        x.take(1, 1);
        x.keep();
        x.put(0, 7, 9);
        x.point(1, 9);
        x.take(1, 0);
        Check.due("no label of a mark that is gone", x.adopt(0), 0);
        Check.due("no time of a point that is gone", x.snap(1, 5), 1);
        Check.marks("no time of a point that is gone", x, 1, "5-5");
    }

    private static void adopts() {
        SpeechTiers x = beside(
                "tier b points;tier a free;mark a 0 5 k;mark a 5 9 l;mark a 20 30;mark a 40 50 m;point b 3 q;",
                "tier a free;tier b points;mark a 0 5;mark a 5 9 z;mark a 20 30;mark a 40 51;point b 3;point b 4;");
        long print = x.print();
        Check.due("adopt", x.adopt(0), 1);
        Check.marks("adopt", x, 0, "0-5:k 5-9:z 20-30 40-51");
        Check.due("again", x.adopt(0), 0);
        Check.due("no act", x.told(3), 1);
        Check.due("adopt of points", x.adopt(1), 1);
        Check.marks("adopt of points", x, 1, "3-3:q 4-4");
        x.undo();
        Check.due("undo", x.undo(), 0);
        Check.due("taken back", x.print(), print);
    }

    private static void snaps() {
        SpeechTiers x = beside("tier a free;mark a 10 20;mark a 40 50;",
                "tier a free;tier b cut a;tier p points a;mark a 12 18;mark a 30 48;split b 44;point p 12;point p 47;");
        long print = x.print();
        // 12 to 10, 18 to 20, 30 (alike near to 20 and 40) to 20: not then, 48 to 50
        Check.due("snap", x.snap(0, 10), 3);
        Check.marks("snap", x, 0, "10-20 30-50");
        Check.marks("with the family", x, 1, "10-20 30-44 44-50");
        Check.marks("with the family", x, 2, "10-10 47-47");
        Check.due("one act", x.told(3), 1);
        Check.due("again", x.snap(0, 10), 0);
        Check.due("no act", x.told(3), 1);
        x.undo();
        Check.due("taken back", x.print(), print);
        Check.due("too far", x.snap(0, 1), 0);
        Check.due("so much", x.snap(0, 2), 3);
        SpeechTiers y = beside("tier p points;", "tier p points;point p 5;");
        Check.due("nothing there", y.snap(0, 999), 0);
        y = beside("tier p points;point p 5;point p 9;", "tier q free;tier p points;point p 7;mark q 6 8;");
        Check.due("the earlier one", y.snap(1, 2), 1);
        Check.marks("the earlier one", y, 1, "5-5");
        Check.marks("of another family", y, 0, "6-8");
    }

    private static void snapsInOrder() {
        // 7 goes to 8; then 9 can't go there any more; 20 is one of theirs
        SpeechTiers x = beside("tier p points;point p 5;point p 8;point p 20;",
                "tier p points;point p 7;point p 9;point p 20;");
        Check.due("in order", x.snap(0, 5), 1);
        Check.marks("in order", x, 0, "8-8 9-9 20-20");
        x = beside("tier p points;point p 5;point p 8;", "tier p points;point p 6;point p 7;");
        Check.due("both", x.snap(0, 5), 2);
        Check.marks("both", x, 0, "5-5 8-8");
        // the first can't pass the one behind it, though that goes away later
        x = beside("tier p points;point p 8;point p 30;", "tier p points;point p 6;point p 7;point p 25;");
        Check.due("not then", x.snap(0, 5), 2);
        Check.marks("not then", x, 0, "6-6 8-8 30-30");
        // stops of the family between stand in the way
        x = beside("tier a free;mark a 10 20;", "tier a free;tier b cut a;mark a 5 30;split b 8;split b 25;");
        Check.due("in the way", x.snap(0, 10), 0);
        Check.due("in the way", x.told(3), 0);
    }

    private static void agrees() {
        SpeechTiers x = beside("tier a free;mark a 0 10 k;mark a 10 20;mark a 30 40 l;tier p points;point p 4;",
                "tier a free;mark a 5 15 k;mark a 15 25;mark a 32 34 m;tier p points;point p 4;");
        Check.due("the same", x.agree(0, 0), 10);
        Check.due("unlike", x.agree(0, 1), 7);
        Check.due("only here", x.agree(0, 2), 5);
        Check.due("only there", x.agree(0, 3), 13);
        for (int what = 0; what < 4; what++) {
            Check.due("points", x.agree(1, what), 0);
        }
        x = beside("tier a free;mark a 0 10;", "tier a points;point a 4;");
        Check.due("unlike kinds", x.agree(0, 3), 10);
        Check.due("unlike kinds", x.agree(0, 2), 0);
    }

    private static void sames() {
        SpeechTiers x = beside("tier p points;point p 5;point p 8;point p 20;",
                "tier p points;point p 7;point p 9;point p 30;");
        same(x, 0, 0, 0);
        same(x, 1, 1, 1);
        same(x, 2, 2, 3);
        same(x, 9, 2, 3);
        same(x, 10, 3, 13);
        same(x, 999, 3, 13);
        x = beside("tier a free;mark a 0 10;mark a 10 20;", "tier a free;mark a 1 12;mark a 13 20;");
        same(x, 0, 1, 0);
        same(x, 1, 2, 1);
        same(x, 2, 3, 3);
        same(x, 3, 3, 3);
        x = beside("tier a free;mark a 0 10;", "tier a free;");
        same(x, 999, 0, 0);
        x = beside("tier p points;point p 10;point p 20;", "tier p points;point p 0;point p 11;");
        same(x, 10, 2, 19);
        same(x, 9, 1, 1);
    }

    private static void same(SpeechTiers x, int apart, int pairs, int together) {
        Check.due("same(0, " + apart + ", 0)", x.same(0, apart, 0), pairs);
        Check.due("same(0, " + apart + ", 1)", x.same(0, apart, 1), together);
    }
}
