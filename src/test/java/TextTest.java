/** Promises 1 to 4: a new object, feed, text, fault. */
public final class TextTest {
    public static void main(String[] args) {
        newObject();
        feeds();
        texts();
        cutShort();
        kindsOfTiers();
        marksInTexts();
        labelsInTexts();
        signs();
        badNumbers();
        tooMany();
        names();
        laws();
        order();
        whatStays();
        Check.finish();
    }

    private static void newObject() {
        SpeechTiers x = new SpeechTiers();
        Check.due("told(0)", x.told(0), 0);
        Check.due("told(1)", x.told(1), 0);
        Check.due("told(2)", x.told(2), 0);
        Check.due("told(3)", x.told(3), 0);
        Check.due("told(4)", x.told(4), 0);
        Check.due("told(5)", x.told(5), -1);
        Check.due("fault()", x.fault(), -1);
        Check.due("undo()", x.undo(), -1);
        Check.due("print()", x.print(), 0);
    }

    private static void feeds() {
        SpeechTiers x = new SpeechTiers();
        for (int i = 1; i <= 20; i++) {
            Check.due("feed", x.feed(0x20202020, 0x20202020, 0x20202020, 0x20202020, 0x20202020), 20 * i);
        }
        Check.due("feed beyond 400", x.feed(0, 0, 0, 0, 0), -1);
        Check.due("told(4)", x.told(4), 400);
        Check.due("text(400)", x.text(400), 0);
        Check.due("told(4)", x.told(4), 0);
        // "tier" "abcd" " fre" "e;  ", the highest byte first
        Check.due("feed", x.feed(0x74696572, 0x20616263, 0x20667265, 0x653b2020, -1), 20);
        Check.due("text", x.text(16), 0);
        Check.due("name", x.tier(0, 8), Check.letters("abc") << 15);
        x.feed(0x20202020, -1, 0, 0, 0);
        Check.due("a byte of 255", x.text(5), -9);
        Check.due("its place", x.fault(), 4);
    }

    private static void texts() {
        SpeechTiers x = new SpeechTiers();
        Check.argument("text(1) of an empty tape", () -> x.text(1));
        Check.argument("text(-1)", () -> x.text(-1));
        Check.feed(x, "tier a free;");
        Check.argument("text(21) of 20", () -> x.text(21));
        Check.due("the tape stays", x.told(4), 20);
        Check.due("text(12)", x.text(12), 0);
        Check.due("the tape is empty", x.told(4), 0);
        Check.due("told(0)", x.told(0), 1);
        Check.due("text(0)", x.text(0), 0);
        Check.due("all anew", x.told(0), 0);
        Check.due("fault()", x.fault(), -1);
    }

    /** What stands on the tape behind the first n bytes is no part of the text. */
    private static void cutShort() {
        SpeechTiers x = new SpeechTiers();
        Check.feed(x, "tier a free;tier b points;point b 999;");
        Check.due("text(10)", x.text(10), -9);
        Check.due("within a word", x.fault(), 7);
        Check.feed(x, "tier a free;tier b points;point b 999;");
        Check.due("text(35)", x.text(35), -9);
        Check.due("within a number", x.fault(), 35);
        Check.feed(x, "tier a free;tier b points;point b 999;");
        Check.due("text(37)", x.text(37), -9);
        Check.due("ahead of ';'", x.fault(), 37);
        Check.feed(x, "tier a free;tier b points;point b 999;");
        Check.due("text(38)", x.text(38), 1);
        String blanks = " ".repeat(388);
        Check.due("400 bytes", Check.tell(x, blanks + "tier a free;"), 0);
        Check.fault(blanks + "tier ab free", 1, 400);
        Check.fault(blanks + "tier abcd in", 1, 400);
        Check.fault(" ".repeat(371) + "tier abcd free;mark abcd 5 99", 1, 400);
    }

    private static void kindsOfTiers() {
        SpeechTiers x = Check.told("tier a free;tier b cut a;tier c in b;tier d points c;tier e points;");
        int[] kinds = {0, 1, 2, 3, 3};
        int[] parents = {-1, 0, 1, 2, -1};
        for (int t = 0; t < 5; t++) {
            Check.due("kind", x.tier(t, 0), kinds[t]);
            Check.due("parent", x.tier(t, 1), parents[t]);
        }
        // words of kinds and verbs are names like others
        x = Check.told("tier free free;tier cut cut free;tier in in cut;tier points points in;tier tier points;");
        Check.due("told(0)", x.told(0), 5);
        Check.due("parent", x.tier(3, 1), 2);
        // a tier told behind marks of its parent
        x = Check.told("tier a free;mark a 3 5 x;mark a 8 9;tier b cut a;tier c in a;tier d points a;tier e cut b;");
        Check.marks("cut, behind", x, 1, "3-5 8-9");
        Check.marks("in, behind", x, 2, "");
        Check.marks("points, behind", x, 3, "");
        Check.marks("cut of cut, behind", x, 4, "3-5 8-9");
    }

    private static void marksInTexts() {
        SpeechTiers x = new SpeechTiers();
        Check.due("text", Check.tell(x, "tier a free;tier b cut a;tier c cut b;mark a 0 999 ab;mark  a5 ;"), -9);
        Check.due("text", Check.tell(x, "tier a free;tier b cut a;tier c cut b;mark a 10 20 ab;mark a0 7cd;"), 6);
        Check.marks("free", x, 0, "0-7:cd 10-20:ab");
        Check.marks("cut", x, 1, "0-7 10-20");
        Check.marks("cut of cut", x, 2, "0-7 10-20");
        Check.due("text", Check.tell(x, "tier a free;tier b cut a;tier c cut b;tier d in b;mark a 10 20 ab;"
                + "split b 15 q;mark d 10 15 r;mark d 15 20;split a 15 zz;split c 12;split d 17 s;"), 10);
        Check.marks("split", x, 0, "10-15:ab 15-20:zz");
        Check.marks("split with", x, 1, "10-15 15-20:q");
        Check.marks("split with, once", x, 2, "10-12 12-15 15-20");
        Check.marks("split in", x, 3, "10-15:r 15-17 17-20:s");
        Check.due("text", Check.tell(x, "tier p points;tier a free;mark a 5 9;tier q points a;"
                + "point p 999 z;point p 0;point q 5;point q 9 abcd;"), 5);
        Check.marks("points", x, 0, "0-0 999-999:z");
        Check.marks("points of a parent", x, 2, "5-5 9-9:abcd");
    }

    private static void labelsInTexts() {
        SpeechTiers x = Check.told("tier a free;mark a 5 9;mark a 9 12 q;label a 5 r;label a 11 st;"
                + "tier p points;point p 4;label p 4 u;");
        Check.marks("labels", x, 0, "5-9:r 9-12:st");
        Check.marks("label of a point", x, 1, "4-4:u");
        x = Check.told("tier a free;mark a 5 9;mark a 9 12 q;label a 9 z;");
        Check.marks("the one that begins", x, 0, "5-9 9-12:z");
        Check.fault("tier a free;mark a 5 9;label a 9 z;", 6, 29);
        Check.fault("tier a free;mark a 5 9;label a 5;", 1, 32);
        Check.fault("tier p points;point p 4;label p 5 u;", 6, 30);
    }

    private static void signs() {
        Check.fault(";", 1, 0);
        Check.fault("  ;", 1, 2);
        Check.fault("tier a free;;", 1, 12);
        Check.fault("tier", 1, 4);
        Check.fault("tier  ", 1, 6);
        Check.fault("tie", 1, 0);
        Check.fault("tiers a free;", 1, 0);
        Check.fault("tier a", 1, 6);
        Check.fault("tier a;", 1, 6);
        Check.fault("tier a fre", 1, 7);
        Check.fault("tier a free", 1, 11);
        Check.fault("tier a free ", 1, 12);
        Check.fault("tier a free b;", 1, 12);
        Check.fault("tier a cut;", 1, 10);
        Check.fault("tier a1 free;", 1, 6);
        Check.fault("tier A free;", 1, 5);
        Check.fault("tier abcdefg", 1, 5);
        Check.fault("tier a free;mark abcdefg 0 1;", 1, 17);
        Check.fault("tier a points;point a;", 1, 21);
        Check.fault("tier a points;point a b;", 1, 22);
        Check.fault("tier a points;point a 5 bcdef", 1, 24);
        Check.fault("tier a points;point a 5 b c;", 1, 26);
        Check.fault("tier a points;point a 5 6;", 1, 24);
        Check.fault("tier a free;mark a 5;", 1, 20);
        Check.fault("tier a free;mark a 5 9 7;", 1, 23);
        Check.fault("tier a free;mark a 5 9 4;", 1, 23);
        Check.fault("tier a free;mark a 59;", 1, 21);
        Check.fault("tier a free;mark a 5 -9;", 1, 21);
        Check.fault("tier a free;mark a 5 9 b", 1, 24);
        Check.fault("tier a free;mark a 5 9\t;", 1, 22);
        Check.fault("tier a free; x", 1, 13);
        Check.fault("tier a free;5", 1, 12);
        Check.due("blanks", Check.tell(new SpeechTiers(), "  tier   a  free  ;  mark a 0  1   b  ;   "), 1);
        Check.due("no blanks", Check.tell(new SpeechTiers(), "tier a free;mark a0 1b;"), 1);
    }

    private static void badNumbers() {
        Check.fault("tier a free;mark a 1000 5;", 2, 19);
        Check.fault("tier a free;mark a 5 1000;", 2, 21);
        Check.fault("tier a free;mark a 5 99999999999999999999;", 2, 21);
        Check.fault("tier a free;mark a 4294967297 9;", 2, 19);
        Check.fault("tier a free;mark a 5 4;", 2, 21);
        Check.fault("tier a free;mark a 0 0;", 2, 21);
        Check.fault("tier a points;point a 1000", 2, 22);
        SpeechTiers x = Check.told("tier a free;mark a 0000000000000000005 00000000000000000000999;");
        Check.marks("zeros ahead", x, 0, "5-999");
    }

    /**
     * A 41st mark can't be told: forty lines of one tier take 404 bytes at the least ("point p0;" ten
     * times, "point p10;" thirty times, "tier p points;").
     */
    private static void tooMany() {
        String six = "tier a free;tier b free;tier c free;tier d free;tier e free;tier f free;";
        Check.due("six", Check.tell(new SpeechTiers(), six), 0);
        Check.fault(six + " tier a free;", 3, 73);
        Check.fault(six + "tier", 3, 72);
    }

    private static void names() {
        Check.fault("tier a free;tier a cut b;", 4, 17);
        Check.fault("tier a cut a;", 5, 11);
        Check.fault("tier a in b;tier b free;", 5, 10);
        Check.fault("tier a points b;", 5, 14);
        Check.fault("tier a points;tier b cut a;", 5, 25);
        Check.fault("tier a points;tier b in a;", 5, 24);
        Check.fault("tier a points;tier b points a;", 5, 28);
        Check.fault("tier a free;mark b 1000 1;", 5, 17);
        Check.fault("tier a free;point ab 0;", 5, 18);
        Check.fault("tier a free;split aa 0;", 5, 18);
        Check.fault("tier ab free;label a 0;", 5, 19);
        Check.due("six letters", Check.tell(new SpeechTiers(), "tier abcdef free;mark abcdef 0 1;"), 1);
    }

    private static void laws() {
        String base = "tier a free;tier b cut a;tier c in b;tier p points a;mark a 5 9;mark a 9 20;";
        int at = base.length();
        Check.fault(base + "mark b 30 40;", 6, at + 5);
        Check.fault(base + "mark p 30 40;", 6, at + 5);
        Check.fault(base + "mark a 19 40;", 6, at + 5);
        Check.fault(base + "mark a 0 6;", 6, at + 5);
        Check.fault(base + "mark a 10 11;", 6, at + 5);
        Check.fault(base + "mark c 8 10;", 6, at + 5);
        Check.fault(base + "mark c 20 21;", 6, at + 5);
        Check.fault(base + "point a 8;", 6, at + 6);
        Check.fault(base + "point p 4;", 6, at + 6);
        Check.fault(base + "point p 21;", 6, at + 6);
        Check.fault(base + "point p 9;point p 9;", 6, at + 16);
        Check.fault(base + "point p 9;split p 9;", 6, at + 16);
        Check.fault(base + "split a 9;", 6, at + 6);
        Check.fault(base + "split a 5;", 6, at + 6);
        Check.fault(base + "split a 30;", 6, at + 6);
        Check.fault(base + "mark c 6 8;split a 7;", 6, at + 17);
        Check.fault(base + "mark c 6 8;split b 7;", 6, at + 17);
        Check.due("split beside", Check.tell(new SpeechTiers(), base + "mark c 6 8;split a 8;"), 7);
    }

    private static void order() {
        String base = "tier a free;tier b cut a;mark a 5 9;";
        int at = base.length();
        Check.fault(base + "mark b 0 1000;", 2, at + 9);
        Check.fault(base + "mark b 0;", 1, at + 8);
        Check.fault(base + "mark b 0 1 abcde;", 6, at + 5);
        Check.fault(base + "mark a 6 7", 6, at + 5);
        Check.fault(base + "mark a 0 1 abcde;", 1, at + 11);
        Check.fault(base + "label a 0 abcde;", 6, at + 6);
        Check.fault(base + "label a 5 abcde;", 1, at + 10);
        Check.fault("tier a free;tier a", 4, 17);
        Check.fault("tier a cut b", 5, 11);
    }

    private static void whatStays() {
        SpeechTiers x = Check.told("tier a free;mark a 5 9;");
        x.put(0, 20, 30);
        x.keep();
        long print = x.print();
        Check.due("a fault", Check.tell(x, "tier b free;tier"), -9);
        Check.due("the tape is empty", x.told(4), 0);
        Check.due("all stays", x.print(), print);
        Check.due("its name stays", x.tier(0, 8), Check.letters("a") << 25);
        Check.due("what can be taken back stays", x.told(3), 1);
        Check.argument("text(1)", () -> x.text(1));
        Check.due("a refused text() has no fault of its own", x.fault(), 16);
        Check.due("a new text", Check.tell(x, "tier c points;"), 0);
        Check.due("nothing can be taken back", x.undo(), -1);
        Check.due("the other stays", x.told(5), 2);
        Check.due("fault()", x.fault(), -1);
    }
}
