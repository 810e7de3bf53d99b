/** The sentences on the TAPE, the TEXT and its FAULTS (promises 1 to 4) that name a boundary, each with its test. */
public final class EdgeTextTest {
    private static final String FREE = "tier a free;";

    public static void main(String[] args) {
        newObjectAndTape();
        lines();
        wordsAndNumbers();
        faults();
        orderOfFaults();
        textAndFault();
        Check.finish();
    }

    private static void fine(String text, int marks) {
        Check.due("text '" + text + "'", Check.tell(new SpeechTiers(), text), marks);
    }

    // ---- promises 1, 2

    private static void newObjectAndTape() {
        Check.sentence("SpeechTiers(): No TIERS", EdgeTextTest::newObject);
        Check.sentence("feed: Twenty bytes come on the TAPE: how many there are", EdgeTextTest::twenty);
        Check.sentence("feed: of each number the highest first", EdgeTextTest::highestFirst);
        Check.sentence("feed: NONE, doing nothing, if there would be more than 400", EdgeTextTest::fourHundred);
    }

    private static void newObject() {
        SpeechTiers x = new SpeechTiers();
        for (int what = 0; what < 5; what++) {
            Check.due("told(" + what + ")", x.told(what), 0);
        }
        Check.due("no THE OTHER", x.told(5), -1);
        Check.due("no FAULT", x.fault(), -1);
        Check.due("no act", x.undo(), -1);
        Check.due("print", x.print(), 0);
        for (int what = 0; what < 3; what++) {
            Check.due("no refusal", x.status(what), 0);
        }
        Check.missing("no TIER", () -> x.tier(0, 0));
        Check.due("keep", x.keep(), 0);
        SpeechTiers y = Check.told(FREE);
        Check.due("another object's are its own", y.told(0), 1);
        Check.due("another object's are its own", new SpeechTiers().told(0), 0);
    }

    private static void twenty() {
        SpeechTiers x = new SpeechTiers();
        Check.due("feed", x.feed(0, 0, 0, 0, 0), 20);
        Check.due("feed", x.feed(-1, -1, -1, -1, -1), 40);
        Check.due("told(4)", x.told(4), 40);
        Check.due("text of none of them", x.text(0), 0);
        Check.due("from the start again", x.feed(0, 0, 0, 0, 0), 20);
    }

    private static void highestFirst() {
        SpeechTiers x = new SpeechTiers();
        x.feed('t' << 24 | 'i' << 16 | 'e' << 8 | 'r', ' ' << 24 | 'a' << 16 | 'b' << 8 | 'c',
                'd' << 24 | 'e' << 16 | 'f' << 8 | ' ', 'f' << 24 | 'r' << 16 | 'e' << 8 | 'e', ';' << 24 | 0x202020);
        Check.due("text", x.text(20), 0);
        Check.due("NAME", x.tier(0, 8), Check.letters("abcdef"));
        x.feed(0x20202020, 0x20202020, 0x20202020, 0x20202020, 0x202020ff);
        Check.due("the lowest byte of the last", x.text(20), -9);
        Check.due("its place", x.fault(), 19);
        x.feed(0xff202020, 0x20202020, 0x20202020, 0x20202020, 0x20202020);
        Check.due("the highest byte of the first", x.text(20), -9);
        Check.due("its place", x.fault(), 0);
    }

    private static void fourHundred() {
        SpeechTiers x = new SpeechTiers();
        for (int i = 1; i < 20; i++) {
            Check.due("feed", x.feed(0x20202020, 0x20202020, 0x20202020, 0x20202020, 0x20202020), 20 * i);
        }
        Check.feed(x, "       tier a free;");
        Check.due("the 400th", x.told(4), 400);
        Check.due("a 401st", x.feed(-1, -1, -1, -1, -1), -1);
        Check.due("and again", x.feed(0, 0, 0, 0, 0), -1);
        Check.due("as many as there were", x.told(4), 400);
        Check.due("the same as there were", x.text(399), 0);
        Check.due("the TIER at their end", x.told(0), 1);
        Check.due("room again", x.feed(0, 0, 0, 0, 0), 20);
        Check.due("no refusal is counted", x.status(0) + x.status(1) + x.status(2), 0);
    }

    // ---- the lines

    private static void lines() {
        Check.sentence("A TEXT has up to 400 bytes", EdgeTextTest::upTo400);
        Check.sentence("{ LINE \";\" }", EdgeTextTest::lineSemicolon);
        Check.sentence("K: \"free\" | \"cut\" W | \"in\" W | \"points\" [ W ]", EdgeTextTest::kinds);
        Check.sentence("(the PARENT told ahead)", EdgeTextTest::parentAhead);
        Check.sentence("\"mark\" W T T [ L ] (a MARK of FREE, IN is PUT)", EdgeTextTest::markLine);
        Check.sentence("\"point\" W T [ L ]", EdgeTextTest::pointLine);
        Check.sentence("\"split\" W T [ L ] (the MARK of a TIER, no POINTS, that has T between FROM and TO)",
                EdgeTextTest::splitLine);
        Check.sentence("split: (L: LABEL of its second part)", EdgeTextTest::splitLabel);
        Check.sentence("\"label\" W T L (of the MARK that has T, or begins with it; a POINT at T)",
                EdgeTextTest::labelLine);
        Check.sentence("A TIER told behind MARKS of its PARENT begins with none, CUT with one each",
                EdgeTextTest::toldBehind);
    }

    private static void upTo400() {
        String blanks = " ".repeat(388);
        fine("", 0);
        fine(blanks + FREE, 0);
        fine(FREE + blanks, 0);
        SpeechTiers x = Check.told(blanks + FREE);
        Check.due("the TIER at its end", x.told(0), 1);
        Check.fault(blanks + "tier ab free", 1, 400);
        Check.fault(" ".repeat(399) + "-", 1, 399);
    }

    private static void lineSemicolon() {
        fine("", 0);
        fine(FREE, 0);
        fine(FREE + "mark a 0 1;", 1);
        Check.fault(";", 1, 0);
        Check.fault(FREE + ";", 1, 12);
        Check.fault("tier a free", 1, 11);
        Check.fault("tier a free tier b free;", 1, 12);
        Check.fault("tier a free,", 1, 11);
    }

    private static void kinds() {
        Check.due("free", Check.told(FREE).tier(0, 0), 0);
        Check.due("cut", Check.told(FREE + "tier b cut a;").tier(1, 0), 1);
        Check.due("in", Check.told(FREE + "tier b in a;").tier(1, 0), 2);
        Check.due("points W", Check.told(FREE + "tier b points a;").tier(1, 1), 0);
        Check.due("points", Check.told(FREE + "tier b points;").tier(1, 1), -1);
        Check.fault("tier a;", 1, 6);
        Check.fault("tier a free a;", 1, 12);
        Check.fault(FREE + "tier b cut;", 1, 22);
        Check.fault(FREE + "tier b in;", 1, 21);
        Check.fault(FREE + "tier b cut a a;", 1, 25);
        Check.fault(FREE + "tier b points a a;", 1, 28);
        Check.fault(FREE + "tier b points 5;", 1, 26);
    }

    private static void parentAhead() {
        Check.fault("tier a cut b;tier b free;", 5, 11);
        Check.fault("tier a in b;tier b free;", 5, 10);
        Check.fault("tier a points b;tier b free;", 5, 14);
        Check.fault("tier a cut a;", 5, 11);
        Check.fault("tier a in a;", 5, 10);
        Check.fault("tier a points a;", 5, 14);
        fine("tier b free;tier c free;tier a cut b;", 0);
    }

    private static void markLine() {
        SpeechTiers x = Check.told(FREE + "tier b in a;tier c cut b;tier d cut a;mark a 0 999 k;mark b 5 6;");
        Check.marks("FREE", x, 0, "0-999:k");
        Check.marks("IN", x, 1, "5-6");
        Check.marks("its CUT", x, 2, "5-6");
        Check.marks("CUT has no LABEL", x, 3, "0-999");
        Check.fault(FREE + "tier b cut a;mark b 0 1;", 6, 30);
        Check.fault("tier b points;mark b 0 1;", 6, 19);
        Check.fault(FREE + "mark a 0;", 1, 20);
        Check.fault(FREE + "mark a 0 1 2;", 1, 23);
        Check.fault(FREE + "mark a 0 1 k l;", 1, 25);
        Check.fault(FREE + "mark a;", 1, 18);
        Check.fault(FREE + "mark 0 1;", 1, 17);
    }

    private static void pointLine() {
        SpeechTiers x = Check.told(FREE + "tier p points a;tier q points;mark a 5 9;"
                + "point p 9 k;point p 5;point q 0;point q 999 l;");
        Check.marks("with a PARENT", x, 1, "5-5 9-9:k");
        Check.marks("without", x, 2, "0-0 999-999:l");
        Check.fault(FREE + "point a 0;", 6, 18);
        Check.fault("tier p points;point p;", 1, 21);
        Check.fault("tier p points;point p 5 6;", 1, 24);
        Check.fault("tier p points;point p 5 k l;", 1, 26);
    }

    private static void splitLine() {
        String base = FREE + "tier b cut a;tier p points;mark a 5 9 k;point p 7;";
        int at = base.length() + 6;
        Check.fault(base + "split a 5;", 6, at);
        Check.fault(base + "split a 9;", 6, at);
        Check.fault(base + "split a 4;", 6, at);
        Check.fault(base + "split p 7;", 6, at);
        Check.fault(base + "split a 7 k l;", 1, at + 6);
        fine(base + "split a 6;", 5);
        fine(base + "split a 8;", 5);
        SpeechTiers x = Check.told(base + "split a 6;");
        Check.marks("both with the LABEL", x, 0, "5-6:k 6-9:k");
        Check.marks("CUT below it, too", x, 1, "5-6 6-9");
        x = Check.told(base + "split b 6;");
        Check.marks("CUT alone", x, 0, "5-9:k");
        Check.marks("CUT alone", x, 1, "5-6 6-9");
    }

    private static void splitLabel() {
        SpeechTiers x = Check.told(FREE + "tier b cut a;mark a 5 9 k;label b 5 m;split a 6 l;");
        Check.marks("of its second part", x, 0, "5-6:k 6-9:l");
        Check.marks("not below", x, 1, "5-6:m 6-9:m");
    }

    private static void labelLine() {
        String base = FREE + "tier p points;mark a 5 9;mark a 9 12;point p 7;";
        int at = base.length() + 6;
        Check.marks("begins", Check.told(base + "label a 5 k;"), 0, "5-9:k 9-12");
        Check.marks("has, at last", Check.told(base + "label a 8 k;"), 0, "5-9:k 9-12");
        Check.marks("one ends, another one begins", Check.told(base + "label a 9 k;"), 0, "5-9 9-12:k");
        Check.fault(base + "label a 4 k;", 6, at);
        Check.fault(base + "label a 12 k;", 6, at);
        Check.marks("a POINT", Check.told(base + "label p 7 k;"), 1, "7-7:k");
        Check.fault(base + "label p 6 k;", 6, at);
        Check.fault(base + "label p 8 k;", 6, at);
        Check.fault(base + "label a 5;", 1, at + 3);
        Check.marks("another one's place", Check.told(base + "label a 5 k;label a 7 l;"), 0, "5-9:l 9-12");
    }

    private static void toldBehind() {
        SpeechTiers x = Check.told(FREE + "mark a 5 9 k;mark a 12 20;tier b cut a;tier c in a;tier d points a;"
                + "split b 7 m;tier e cut b;");
        Check.marks("CUT", x, 1, "5-7 7-9:m 12-20");
        Check.marks("IN", x, 2, "");
        Check.marks("POINTS", x, 3, "");
        Check.marks("CUT of CUT, without LABELS", x, 4, "5-7 7-9 12-20");
        Check.marks("CUT of none", Check.told(FREE + "tier b cut a;"), 1, "");
    }

    // ---- words, numbers, blanks

    private static void wordsAndNumbers() {
        Check.sentence("W: a NAME, 1 to 6 small letters", EdgeTextTest::nameLetters);
        Check.sentence("L: 1 to 4", EdgeTextTest::labelLetters);
        Check.sentence("Words: small letters, as many as stand there", EdgeTextTest::words);
        Check.sentence("numbers: digits, as many as stand there", EdgeTextTest::numbers);
        Check.sentence("blanks (32) may stand ahead of all these and of \";\", and at the end", EdgeTextTest::blanks);
        Check.sentence("(one at least between two words)", EdgeTextTest::blankBetween);
    }

    private static void nameLetters() {
        fine("tier a free;mark a 0 1;", 1);
        fine("tier zzzzzz free;mark zzzzzz 0 1;", 1);
        Check.fault("tier abcdefg free;", 1, 5);
        Check.fault("tier abcdef free;mark abcdefg 0 1;", 1, 22);
        Check.fault("tier abcdef free;tier b cut abcdefg;", 1, 28);
        Check.fault("tier 5 free;", 1, 5);
        Check.fault("tier A free;", 1, 5);
        Check.fault("tier ` free;", 1, 5);
        Check.fault("tier { free;", 1, 5);
    }

    private static void labelLetters() {
        Check.marks("one", Check.told(FREE + "mark a 0 1 z;"), 0, "0-1:z");
        Check.marks("four", Check.told(FREE + "mark a 0 1 abcd;"), 0, "0-1:abcd");
        Check.fault(FREE + "mark a 0 1 abcde;", 1, 23);
        Check.fault(FREE + "mark a 0 9;split a 5 abcde;", 1, 33);
        Check.fault(FREE + "mark a 0 9;label a 5 abcde;", 1, 33);
        Check.fault("tier p points;point p 5 abcde;", 1, 24);
        fine(FREE + "mark a 0 9;split a 5 abcd;label a 5 z;", 2);
    }

    private static void words() {
        Check.fault("tiera free;", 1, 0);
        Check.fault("tie r a free;", 1, 0);
        Check.fault("tier a freeb;", 1, 7);
        Check.fault("tier aA free;", 1, 6);
        Check.fault(FREE + "marka 0 1;", 1, 12);
        fine(FREE + "mark a 0 1ab;", 1);
    }

    private static void numbers() {
        fine(FREE + "mark a0 1;", 1);
        Check.marks("zeros ahead", Check.told(FREE + "mark a 000000000000005 00000999;"), 0, "5-999");
        Check.fault(FREE + "mark a 01;", 1, 21);
        Check.fault(FREE + "mark a 0 1 0;", 1, 23);
        Check.fault(FREE + "mark a 5 10000000000000000000000000000009;", 2, 21);
        Check.fault(FREE + "mark a 0 4294967301;", 2, 21);
        Check.fault(FREE + "mark a 0 18446744073709551621;", 2, 21);
        Check.fault(FREE + "mark a 0 /;", 1, 21);
        Check.fault(FREE + "mark a 0 :;", 1, 21);
    }

    private static void blanks() {
        fine("  tier  a  free  ;  mark  a  0  1  k  ;  ", 1);
        fine("   ", 0);
        fine(FREE + " ", 0);
        Check.fault("\ttier a free;", 1, 0);
        Check.fault("tier\ta free;", 1, 4);
        Check.fault("tier a free\n;", 1, 11);
        Check.fault(FREE + "\0", 1, 12);
        Check.fault(FREE + "\u00a0", 1, 12);
    }

    private static void blankBetween() {
        Check.fault("tiera free;", 1, 0);
        Check.fault("tier afree;", 1, 10);
        Check.fault(FREE + "tier b cuta;", 1, 19);
        Check.fault(FREE + "pointa 5;", 1, 12);
        fine("tier a free;mark a0 1k;", 1);
    }

    // ---- FAULTS

    private static void faults() {
        Check.sentence("1 what can't stand there", EdgeTextTest::unfit);
        Check.sentence("1 (at the length, if the text ends too early)", EdgeTextTest::endsEarly);
        Check.sentence("1 a NAME, a LABEL that is too long", EdgeTextTest::tooLong);
        Check.sentence("1 a word behind tier W that is no K", EdgeTextTest::noKind);
        Check.sentence("\"cut\", \"in\", \"free\", \"points\" are such there", EdgeTextTest::kindsAreKinds);
        Check.sentence("2 a number that is none such", EdgeTextTest::badNumber);
        Check.sentence("2 (TO that is not greater than FROM, too)", EdgeTextTest::toNotGreater);
        Check.sentence("3 a seventh TIER (at \"tier\")", EdgeTextTest::seventhTier);
        Check.sentence("4 a NAME that is told already (of tier)", EdgeTextTest::toldAlready);
        Check.sentence("5 a NAME that no TIER has", EdgeTextTest::noTierHas);
        Check.sentence("5 (of a PARENT: or that of POINTS)", EdgeTextTest::parentOfPoints);
        Check.sentence("6 what the LAWS do not let (at W)", EdgeTextTest::unlawful);
        Check.sentence("6 what KIND does not let (at W)", EdgeTextTest::wrongKind);
        Check.sentence("6 (label: no such MARK)", EdgeTextTest::labelOfNone);
    }

    private static void unfit() {
        Check.fault("-", 1, 0);
        Check.fault("5", 1, 0);
        Check.fault("tier ;", 1, 5);
        Check.fault("free a;", 1, 0);
        Check.fault("marks a 0 1;", 1, 0);
        for (String word : new String[] {"xier", "txer", "tixr", "tiex", "xark", "marx", "xoint", "poinx", "xplit", "splix",
            "xabel", "labex"}) {
            Check.fault("tier a points;" + word + " a 0 k;", 1, 14);
        }
        for (String word : new String[] {"xree", "frex", "xut", "cux", "xn", "ix", "xoints", "pointx"}) {
            Check.fault("tier b free;tier a " + word + " b;", 1, 19);
        }
        Check.fault(FREE + "mark a -1 5;", 1, 19);
        Check.fault(FREE + "mark a b 5;", 1, 19);
        Check.fault(FREE + "mark a 1 b;", 1, 21);
        Check.fault(FREE + "mark a ;", 1, 19);
        Check.fault(FREE + "mark a 0 1 -", 1, 23);
        Check.fault(FREE + "Mark a 0 1;", 1, 12);
    }

    private static void endsEarly() {
        Check.fault("tier", 1, 4);
        Check.fault("tier ", 1, 5);
        Check.fault("tier a", 1, 6);
        Check.fault("tier a  ", 1, 8);
        Check.fault("tier a cut", 1, 10);
        Check.fault("tier a points", 1, 13);
        Check.fault(FREE + "tier b cut a", 1, 24);
        Check.fault(FREE + "mark", 1, 16);
        Check.fault(FREE + "mark a", 1, 18);
        Check.fault(FREE + "mark a 0", 1, 20);
        Check.fault(FREE + "mark a 0 1", 1, 22);
        Check.fault(FREE + "mark a 0 1 k", 1, 24);
        Check.fault(FREE + "mark a 0 9;label a 5", 1, 32);
        // what is behind the first n bytes on the TAPE is not looked at
        SpeechTiers x = new SpeechTiers();
        Check.feed(x, FREE + "mark a 10 20;");
        Check.due("n within a number", x.text(20), -9);
        Check.due("at n", x.fault(), 20);
        Check.feed(x, FREE + "mark a 10 20;");
        Check.due("n ahead of ';'", x.text(24), -9);
        Check.due("at n", x.fault(), 24);
    }

    private static void tooLong() {
        Check.fault("tier abcdefg free;", 1, 5);
        Check.fault("tier  abcdefgh free;", 1, 6);
        Check.fault(FREE + "tier b in abcdefg;", 1, 22);
        Check.fault(FREE + "point abcdefg 0;", 1, 18);
        Check.fault(FREE + "split abcdefg 0;", 1, 18);
        Check.fault(FREE + "label abcdefg 0 a;", 1, 18);
        Check.fault(FREE + "mark a 0 1 " + "k".repeat(60) + ";", 1, 23);
    }

    private static void noKind() {
        Check.fault("tier a fre;", 1, 7);
        Check.fault("tier a frees;", 1, 7);
        Check.fault("tier a point;", 1, 7);
        Check.fault("tier a a;", 1, 7);
        Check.fault("tier a mark;", 1, 7);
        Check.fault("tier a abcdefghij;", 1, 7);
    }

    private static void kindsAreKinds() {
        fine("tier free free;tier cut cut free;tier in in cut;tier points points in;mark free 0 1;", 2);
        fine("tier a points;tier cut free;tier b points cut;mark cut 0 1;", 1);
        fine("tier tier free;tier mark cut tier;mark tier 0 9 free;split mark 5 cut;label tier 0 in;", 3);
        Check.fault("tier free;", 1, 9);
        Check.fault("tier cut a;", 1, 9);
    }

    private static void badNumber() {
        Check.fault(FREE + "mark a 1000 1001;", 2, 19);
        Check.fault(FREE + "mark a 0 1000;", 2, 21);
        Check.fault("tier p points;point p 1000;", 2, 22);
        Check.fault(FREE + "split a 1000;", 2, 20);
        Check.fault(FREE + "label a 1000 b;", 2, 20);
        fine(FREE + "mark a 0 999;", 1);
        fine("tier p points;point p 999;point p 0;", 2);
    }

    private static void toNotGreater() {
        Check.fault(FREE + "mark a 5 5;", 2, 21);
        Check.fault(FREE + "mark a 5 4;", 2, 21);
        Check.fault(FREE + "mark a 999 0;", 2, 23);
        fine(FREE + "mark a 5 6;", 1);
    }

    private static void seventhTier() {
        String six = "tier a free;tier b free;tier c free;tier d free;tier e free;tier f points;";
        fine(six, 0);
        fine(six + "mark a 0 1;", 1);
        Check.fault(six + "tier g free;", 3, 74);
        Check.fault(six + "  tier g free;", 3, 76);
        Check.fault(six + "tier", 3, 74);
        Check.fault(six + "tier a free;", 3, 74);
        Check.fault(six + "tiers", 1, 74);
    }

    private static void toldAlready() {
        Check.fault(FREE + "tier a free;", 4, 17);
        Check.fault(FREE + "tier a", 4, 17);
        Check.fault(FREE + "tier b cut a;tier  b free;", 4, 31);
        fine("tier a free;tier aa free;tier b free;", 0);
        SpeechTiers x = Check.told(FREE);
        Check.due("told by another TEXT", Check.tell(x, FREE), 0);
    }

    private static void noTierHas() {
        Check.fault("mark a 0 1;", 5, 5);
        Check.fault(FREE + "mark b 0 1;", 5, 17);
        Check.fault(FREE + "point aa 0;", 5, 18);
        Check.fault("tier aa free;split a 0;", 5, 19);
        Check.fault(FREE + "label b 0 k;", 5, 18);
        Check.fault(FREE + "tier b cut c;", 5, 23);
        Check.fault("mark a 0 1;tier a free;", 5, 5);
        SpeechTiers x = Check.told("tier z free;");
        Check.due("told by another TEXT", Check.tell(x, "mark z 0 1;"), -5);
    }

    private static void parentOfPoints() {
        Check.fault("tier p points;tier b cut p;", 5, 25);
        Check.fault("tier p points;tier b in p;", 5, 24);
        Check.fault("tier p points;tier b points p;", 5, 28);
        Check.fault(FREE + "tier p points a;tier b points p;", 5, 42);
    }

    private static void unlawful() {
        String base = FREE + "tier b in a;tier p points a;mark a 5 9;mark b 6 8;point p 5;";
        int at = base.length();
        Check.fault(base + "mark a 8 10;", 6, at + 5);
        Check.fault(base + "mark a 0 6;", 6, at + 5);
        Check.fault(base + "mark b 4 6;", 6, at + 5);
        Check.fault(base + "mark b 8 10;", 6, at + 5);
        Check.fault(base + "point p 4;", 6, at + 6);
        Check.fault(base + "point p 10;", 6, at + 6);
        Check.fault(base + "point p 5;", 6, at + 6);
        Check.fault(base + "split a 7;", 6, at + 6);
        Check.fault(base + "split a 5;", 6, at + 6);
        Check.fault(base + "split   a 9;", 6, at + 8);
        fine(base + "mark a 9 10;mark a 4 5;mark b 5 6;mark b 8 9;point p 10;split a 6;", 9);
    }

    private static void wrongKind() {
        String base = FREE + "tier b cut a;tier c in a;tier p points;mark a 5 9;mark c 5 9;point p 5;";
        int at = base.length();
        Check.fault(base + "mark b 10 11;", 6, at + 5);
        Check.fault(base + "mark p 10 11;", 6, at + 5);
        Check.fault(base + "point a 7;", 6, at + 6);
        Check.fault(base + "point b 7;", 6, at + 6);
        Check.fault(base + "point c 7;", 6, at + 6);
        Check.fault(base + "split p 5;", 6, at + 6);
    }

    private static void labelOfNone() {
        String base = FREE + "tier p points;mark a 5 9;point p 5;";
        int at = base.length() + 6;
        Check.fault(base + "label a 4 k;", 6, at);
        Check.fault(base + "label a 9 k;", 6, at);
        Check.fault(base + "label p 4 k;", 6, at);
        Check.fault(FREE + "label a 0 k;", 6, 18);
    }

    // ---- which one of several

    private static void orderOfFaults() {
        Check.sentence("FAULTS, the first from the left, at its first byte", EdgeTextTest::firstFromLeft);
        Check.sentence("6 as soon as all but L is read", EdgeTextTest::allButLabel);
    }

    private static void firstFromLeft() {
        Check.fault("tier a fre;tier a free;", 1, 7);
        Check.fault(FREE + "mark b 1000 0;", 5, 17);
        Check.fault(FREE + "mark a 1000 0;", 2, 19);
        Check.fault(FREE + "mark a 1000", 2, 19);
        Check.fault(FREE + "tier a cut b;", 4, 17);
        Check.fault(FREE + "tier b cut c", 5, 23);
        Check.fault(FREE + "mark a 5 4 abcde;", 2, 21);
        Check.fault(FREE + "mark abcdefg 1000", 1, 17);
    }

    private static void allButLabel() {
        String base = FREE + "tier b cut a;mark a 5 9;";
        int at = base.length();
        // ahead of what is behind the numbers
        Check.fault(base + "mark a 5 9 abcde;", 6, at + 5);
        Check.fault(base + "mark a 5 9", 6, at + 5);
        Check.fault(base + "mark b 0 1 2", 6, at + 5);
        Check.fault(base + "split a 5 abcde;", 6, at + 6);
        Check.fault(base + "label a 4;", 6, at + 6);
        Check.fault(base + "point a 5", 6, at + 6);
        // not ahead of the numbers
        Check.fault(base + "mark b 0 1000;", 2, at + 9);
        Check.fault(base + "mark b 0;", 1, at + 8);
        Check.fault(base + "mark b 5 5;", 2, at + 9);
        Check.fault(base + "point a 1000;", 2, at + 8);
        Check.fault(base + "point a k;", 1, at + 8);
    }

    // ---- promises 3, 4

    private static void textAndFault() {
        Check.sentence("text: The first n bytes of the TAPE (empty then)", EdgeTextTest::firstBytes);
        Check.sentence("text: tell all anew (nothing can be taken back; THE OTHER stays)", EdgeTextTest::allAnew);
        Check.sentence("text: how many MARKS in all", EdgeTextTest::howManyMarks);
        Check.sentence("text: or the FAULT less 10 (all stays)", EdgeTextTest::faultAllStays);
        Check.sentence("text: IllegalArgumentException: n is not 0 to the TAPE's bytes (it stays)",
                EdgeTextTest::notSoMany);
        Check.sentence("fault: The place of the FAULT of the latest text(); NONE without", EdgeTextTest::placeOfFault);
    }

    private static void firstBytes() {
        SpeechTiers x = new SpeechTiers();
        Check.feed(x, FREE + "tier b free;");
        Check.due("the first 12", x.text(12), 0);
        Check.due("one TIER", x.told(0), 1);
        Check.due("empty then", x.told(4), 0);
        Check.argument("no byte more", () -> x.text(1));
        Check.feed(x, "tier a free;--------");
        Check.due("all 20", x.text(20), -9);
        Check.due("empty then, with a FAULT, too", x.told(4), 0);
        x.feed(0, 0, 0, 0, 0);
        Check.due("none of them", x.text(0), 0);
        Check.due("empty then, too", x.told(4), 0);
    }

    private static void allAnew() {
        SpeechTiers x = Check.told(FREE + "tier b points;mark a 0 5;");
        x.keep();
        x.put(0, 6, 7);
        x.put(0, 8, 9);
        Check.due("text", Check.tell(x, "tier c free;"), 0);
        Check.due("one TIER", x.told(0), 1);
        Check.due("no MARKS", x.told(1), 0);
        Check.due("nothing can be taken back", x.told(3), 0);
        Check.due("nothing can be taken back", x.undo(), -1);
        Check.due("THE OTHER stays", x.told(5), 1);
        Check.due("an empty one", x.text(0), 0);
        Check.due("no TIERS", x.told(0), 0);
        Check.due("THE OTHER stays", x.told(5), 1);
    }

    private static void howManyMarks() {
        fine("", 0);
        fine(FREE, 0);
        fine(FREE + "tier b cut a;tier p points;mark a 0 5;mark a 5 9;split b 3;point p 0;", 6);
    }

    private static void faultAllStays() {
        for (int reason = 1; reason <= 6; reason++) {
            SpeechTiers x = Check.told(FREE + "mark a 0 5 k;");
            x.keep();
            x.put(0, 6, 7);
            long print = x.print();
            String[] texts = {"tier z free", "tier z free;mark z 5 1000;",
                "tier z free;tier y free;tier x free;tier w free;tier v free;tier u free;tier t free;",
                "tier z free;tier z free;", "tier z free;mark a 0 1;", "tier z points;mark z 0 1;"};
            Check.due("FAULT " + reason, Check.tell(x, texts[reason - 1]), reason - 10);
            Check.due("print", x.print(), print);
            Check.due("NAME", x.tier(0, 8), 1 << 25);
            Check.due("TIERS", x.told(0), 1);
            Check.due("THE OTHER", x.told(5), 1);
            Check.due("what can be taken back", x.told(3), 1);
            Check.due("no refusal", x.status(1), 0);
            Check.due("undo", x.undo(), 0);
            Check.marks("taken back", x, 0, "0-5:k");
        }
    }

    private static void notSoMany() {
        SpeechTiers x = new SpeechTiers();
        Check.argument("-1 of none", () -> x.text(-1));
        Check.argument("1 of none", () -> x.text(1));
        Check.feed(x, FREE + "tier b free;");
        Check.argument("-1", () -> x.text(-1));
        Check.argument("41 of 40", () -> x.text(41));
        Check.argument("the least", () -> x.text(Integer.MIN_VALUE));
        Check.argument("the greatest", () -> x.text(Integer.MAX_VALUE));
        Check.due("it stays", x.told(4), 40);
        Check.due("TIERS stay", x.told(0), 0);
        Check.due("counted", x.status(1), 6);
        Check.due("the same bytes", x.text(24), 0);
        Check.due("the same bytes", x.told(0), 2);
    }

    private static void placeOfFault() {
        SpeechTiers x = new SpeechTiers();
        Check.due("no text() yet", x.fault(), -1);
        Check.tell(x, "-");
        Check.due("the first byte", x.fault(), 0);
        Check.due("asked again", x.fault(), 0);
        Check.tell(x, " ".repeat(388) + "tier ab free");
        Check.due("the length", x.fault(), 400);
        Check.tell(x, FREE);
        Check.due("none", x.fault(), -1);
        Check.tell(x, "tier -");
        Check.due("the latest", x.fault(), 5);
        x.text(0);
        Check.due("none", x.fault(), -1);
    }
}
