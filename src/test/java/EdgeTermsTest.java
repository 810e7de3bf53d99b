/** The sentences of the document's "Terms" (but for the TEXT) that name a boundary, each with its test. */
public final class EdgeTermsTest {
    public static void main(String[] args) {
        tiersAndTimes();
        marks();
        laws();
        stops();
        putAndTaken();
        splitAndJoined();
        movedAndSilent();
        gapsAndTheOther();
        Check.finish();
    }

    // ---- TIMES, TIERS

    private static void tiersAndTimes() {
        Check.sentence("TIMES 0 to 999", EdgeTermsTest::times);
        Check.sentence("TIERS, numbered from 0 on (6 at most)", EdgeTermsTest::sixTiers);
        Check.sentence("KIND: 0 FREE, 1 CUT, 2 IN, 3 POINTS (with a PARENT or without)", EdgeTermsTest::kinds);
        Check.sentence("A PARENT is FREE, CUT or IN", EdgeTermsTest::parents);
        Check.sentence("A FAMILY: a TIER without a PARENT, and all below it", EdgeTermsTest::families);
    }

    private static void times() {
        SpeechTiers x = Check.told("tier a free;tier p points;");
        Check.argument("put ahead of 0", () -> x.put(0, -1, 5));
        Check.argument("put behind 999", () -> x.put(0, 5, 1000));
        Check.argument("point ahead of 0", () -> x.point(1, -1));
        Check.argument("point behind 999", () -> x.point(1, 1000));
        Check.due("point at 0", x.point(1, 0), 0);
        Check.due("point at 999", x.point(1, 999), 1);
        Check.due("put from 0 to 999", x.put(0, 0, 999), 0);
        Check.marks("all of time", x, 0, "0-999");
    }

    private static void sixTiers() {
        String five = "tier a free;tier b free;tier c free;tier d free;tier e free;";
        SpeechTiers x = Check.told(five + "tier f free;");
        Check.due("six", x.told(0), 6);
        Check.due("the first", x.tier(0, 8), Check.letters("a") << 25);
        Check.due("the last", x.tier(5, 8), Check.letters("f") << 25);
        Check.missing("ahead of the first", () -> x.tier(-1, 0));
        Check.missing("behind the last", () -> x.tier(6, 0));
        Check.fault(five + "tier f free;tier g free;", 3, 72);
        SpeechTiers y = Check.told(five);
        Check.missing("behind the last of five", () -> y.tier(5, 0));
    }

    private static void kinds() {
        SpeechTiers x = Check.told("tier a free;tier b cut a;tier c in a;tier d points a;tier e points;");
        int[] kinds = {0, 1, 2, 3, 3};
        int[] parents = {-1, 0, 0, 0, -1};
        for (int t = 0; t < 5; t++) {
            Check.due("KIND of " + t, x.tier(t, 0), kinds[t]);
            Check.due("PARENT of " + t, x.tier(t, 1), parents[t]);
        }
    }

    private static void parents() {
        for (String kind : new String[] {"cut", "in", "points"}) {
            Check.due("of FREE", Check.tell(new SpeechTiers(), "tier a free;tier b " + kind + " a;"), 0);
            Check.due("of CUT", Check.tell(new SpeechTiers(), "tier z free;tier a cut z;tier b " + kind + " a;"), 0);
            Check.due("of IN", Check.tell(new SpeechTiers(), "tier z free;tier a in z;tier b " + kind + " a;"), 0);
            String points = "tier a points;tier b " + kind + " ";
            Check.fault(points + "a;", 5, points.length());
            points = "tier z free;tier a points z;tier b " + kind + " ";
            Check.fault(points + "a;", 5, points.length());
        }
    }

    private static void families() {
        SpeechTiers x = Check.told("tier a free;tier b points;tier c cut a;tier d in c;tier e free;tier f points d;");
        int[] first = {0, 1, 0, 0, 4, 0};
        for (int t = 0; t < 6; t++) {
            Check.due("FAMILY of " + t, x.tier(t, 4), first[t]);
        }
        Check.due("FAMILIES", x.told(2), 3);
    }

    // ---- MARKS

    private static void marks() {
        Check.sentence("A TIER has MARKS (40 at most): FREE", EdgeTermsTest::fortyFree);
        Check.sentence("A TIER has MARKS (40 at most): IN", EdgeTermsTest::fortyIn);
        Check.sentence("A TIER has MARKS (40 at most): POINTS", EdgeTermsTest::fortyPoints);
        Check.sentence("A TIER has MARKS (40 at most): CUT", EdgeTermsTest::fortyPieces);
        Check.sentence("A TIER has MARKS (40 at most): a CUT below it that is full", EdgeTermsTest::fortyBelow);
        Check.sentence("numbered in order of TIMES", EdgeTermsTest::numbered);
        Check.sentence("FROM, TO (greater than FROM; of POINTS the same)", EdgeTermsTest::toIsGreater);
        Check.sentence("a LABEL (none, or 1 to 4 small letters)", EdgeTermsTest::labels);
    }

    private static void fortyFree() {
        SpeechTiers x = Check.told("tier a free;tier b free;");
        Check.fill(x, 0);
        Check.due("MARKS", x.tier(0, 2), 40);
        Check.state("a 41st, behind", () -> x.put(0, 998, 999));
        Check.state("a 41st, ahead of the last", () -> x.put(0, 77, 78));
        Check.due("MARKS", x.tier(0, 2), 40);
        Check.due("another TIER has room", x.put(1, 0, 999), 0);
        x.take(0, 39);
        Check.due("a 40th again", x.put(0, 998, 999), 39);
        SpeechTiers y = Check.told("tier a free;mark a 0 100;");
        for (int m = 0; m < 39; m++) {
            Check.due("split " + m, y.split(0, m, m + 1), 1);
        }
        Check.state("a 41st by a split", () -> y.split(0, 39, 50));
        Check.due("MARKS", y.tier(0, 2), 40);
    }

    private static void fortyIn() {
        SpeechTiers x = Check.told("tier a free;tier b in a;mark a 0 999;");
        Check.fill(x, 1);
        Check.state("a 41st", () -> x.put(1, 80, 81));
        Check.due("MARKS", x.tier(1, 2), 40);
        x.take(1, 39);
        Check.due("a 40th again", x.put(1, 998, 999), 39);
    }

    private static void fortyPoints() {
        SpeechTiers x = Check.told("tier p points;");
        for (int m = 0; m < 40; m++) {
            Check.due("point " + m, x.point(0, m), m);
        }
        Check.state("a 41st", () -> x.point(0, 40));
        Check.due("MARKS", x.tier(0, 2), 40);
    }

    private static void fortyPieces() {
        SpeechTiers x = Check.told("tier a free;tier b cut a;mark a 0 999;");
        for (int m = 0; m < 39; m++) {
            Check.due("split " + m, x.split(1, m, m + 1), 1);
        }
        Check.state("a 41st", () -> x.split(1, 39, 500));
        Check.due("MARKS", x.tier(1, 2), 40);
    }

    private static void fortyBelow() {
        SpeechTiers x = Check.told("tier a free;tier b cut a;tier c cut b;mark a 0 100;");
        for (int m = 0; m < 39; m++) {
            x.split(2, m, m + 1);
        }
        long print = x.print();
        Check.state("put", () -> x.put(0, 100, 200));
        Check.state("split where all below must be split, too", () -> x.split(0, 0, 50));
        Check.state("split right above", () -> x.split(1, 0, 50));
        Check.due("refused, nothing changes", x.print(), print);
        Check.due("split where the full one ends a MARK", x.split(0, 0, 39), 2);
        SpeechTiers y = Check.told("tier a free;tier b in a;tier c cut b;mark a 0 100;mark b 0 99;");
        for (int m = 0; m < 39; m++) {
            y.split(2, m, m + 1);
        }
        Check.state("put of IN", () -> y.put(1, 99, 100));
        Check.due("put of FREE: a CUT of IN has none more", y.put(0, 100, 200), 1);
    }

    private static void numbered() {
        SpeechTiers x = Check.told("tier a free;tier p points;");
        Check.due("the first", x.put(0, 50, 60), 0);
        Check.due("behind", x.put(0, 60, 70), 1);
        Check.due("ahead", x.put(0, 0, 10), 0);
        Check.due("between", x.put(0, 10, 50), 1);
        Check.marks("in order", x, 0, "0-10 10-50 50-60 60-70");
        Check.due("a POINT", x.point(1, 5), 0);
        Check.due("a POINT ahead", x.point(1, 4), 0);
        Check.due("a POINT behind", x.point(1, 6), 2);
    }

    private static void toIsGreater() {
        SpeechTiers x = Check.told("tier a free;tier p points;");
        Check.argument("alike", () -> x.put(0, 5, 5));
        Check.argument("less", () -> x.put(0, 5, 4));
        Check.due("one greater", x.put(0, 5, 6), 0);
        x.point(1, 7);
        Check.due("FROM of a POINT", x.mark(1, 0, 0), 7);
        Check.due("TO of a POINT", x.mark(1, 0, 1), 7);
    }

    private static void labels() {
        SpeechTiers x = Check.told("tier a free;mark a 0 5;");
        Check.due("none at first", x.mark(0, 0, 2), 0);
        Check.due("one letter", x.label(0, 0, Check.letters("a")), 0);
        Check.due("four letters", x.label(0, 0, Check.letters("zzzz")), Check.letters("a"));
        Check.argument("five letters", () -> x.label(0, 0, Check.letters("aaaaa")));
        Check.due("none again", x.label(0, 0, 0), Check.letters("zzzz"));
        Check.due("none", x.mark(0, 0, 2), 0);
    }

    // ---- LAWS

    private static void laws() {
        Check.sentence("MARKS of one TIER do not overlap", EdgeTermsTest::noOverlap);
        Check.sentence("(they may touch)", EdgeTermsTest::touch);
        Check.sentence("POINTS are at unlike TIMES", EdgeTermsTest::unlikePoints);
        Check.sentence("a MARK of IN lies wholly in one MARK of the PARENT", EdgeTermsTest::whollyIn);
        Check.sentence("MARKS of CUT make up all MARKS of the PARENT", EdgeTermsTest::pieces);
        Check.sentence("a POINT with a PARENT lies in a MARK of it (FROM and TO of that, too)", EdgeTermsTest::pointIn);
    }

    private static void noOverlap() {
        SpeechTiers x = Check.told("tier a free;tier b free;mark a 10 20;");
        Check.state("its first TIME", () -> x.put(0, 5, 11));
        Check.state("its last TIME", () -> x.put(0, 19, 25));
        Check.state("one alike", () -> x.put(0, 10, 20));
        Check.state("one within", () -> x.put(0, 14, 15));
        Check.state("one around", () -> x.put(0, 9, 21));
        Check.state("from its FROM", () -> x.put(0, 10, 11));
        Check.state("to its TO", () -> x.put(0, 19, 20));
        Check.due("on another TIER", x.put(1, 10, 20), 0);
    }

    private static void touch() {
        SpeechTiers x = Check.told("tier a free;mark a 10 20;");
        Check.due("to its FROM", x.put(0, 9, 10), 0);
        Check.due("from its TO", x.put(0, 20, 21), 2);
        Check.marks("they touch", x, 0, "9-10 10-20 20-21");
    }

    private static void unlikePoints() {
        SpeechTiers x = Check.told("tier p points;tier q points;point p 5;");
        Check.state("the same TIME", () -> x.point(0, 5));
        Check.due("one less", x.point(0, 4), 0);
        Check.due("one more", x.point(0, 6), 2);
        Check.due("the same TIME on another TIER", x.point(1, 5), 0);
    }

    private static void whollyIn() {
        SpeechTiers x = Check.told("tier a free;tier b in a;mark a 10 20;mark a 20 30;");
        Check.state("one too early", () -> x.put(1, 9, 15));
        Check.state("one too late", () -> x.put(1, 25, 31));
        Check.state("in none", () -> x.put(1, 31, 35));
        Check.state("in two that touch", () -> x.put(1, 19, 21));
        Check.state("in both wholly", () -> x.put(1, 10, 30));
        Check.due("as long as the first", x.put(1, 10, 20), 0);
        Check.due("from the FROM of the second", x.put(1, 20, 21), 1);
        Check.due("to the TO of the second", x.put(1, 29, 30), 2);
    }

    private static void pieces() {
        SpeechTiers x = Check.told("tier a free;tier b cut a;mark a 10 20;mark a 20 30;");
        Check.marks("as many", x, 1, "10-20 20-30");
        Check.state("none of its own", () -> x.put(1, 40, 50));
        x.split(1, 0, 15);
        Check.state("not across", () -> x.join(1, 1));
        x.move(0, 20, 16);
        Check.marks("with the PARENT's", x, 1, "10-15 15-16 16-30");
        x.put(0, 40, 50);
        Check.marks("with the PARENT's", x, 1, "10-15 15-16 16-30 40-50");
        x.take(0, 0);
        Check.marks("with the PARENT's", x, 1, "16-30 40-50");
        Check.state("not the only one there", () -> x.take(1, 0));
        Check.due("as much TIME as the PARENT", x.tier(1, 5), x.tier(0, 5));
    }

    private static void pointIn() {
        SpeechTiers x = Check.told("tier a free;tier p points a;mark a 10 20;");
        Check.state("one ahead of FROM", () -> x.point(1, 9));
        Check.state("one behind TO", () -> x.point(1, 21));
        Check.due("FROM", x.point(1, 10), 0);
        Check.due("TO", x.point(1, 20), 1);
        SpeechTiers y = Check.told("tier a free;tier p points a;");
        Check.state("no MARK at all", () -> y.point(1, 10));
    }

    // ---- STOPS

    private static void stops() {
        Check.sentence("STOPS of a FAMILY: all TIMES at which any MARK of its TIERS begins or ends, or a POINT is",
                EdgeTermsTest::stopsOfAFamily);
        Check.sentence("THE PARENT'S of a POINT that two have: the first", EdgeTermsTest::firstOfTwo);
    }

    private static void stopsOfAFamily() {
        SpeechTiers x = Check.told("tier a free;tier b cut a;tier p points b;tier q points;tier c in a;"
                + "mark a 10 20;split b 14;point p 12;point p 14;point q 11;mark c 15 20;");
        int[] stops = {10, 12, 14, 15, 20};
        Check.due("each of them once", x.tier(0, 7), stops.length);
        for (int t : new int[] {0, 1, 2, 4}) {
            for (int k = 0; k < stops.length; k++) {
                Check.due("the same for all of the FAMILY", x.stop(t, k), stops[k]);
            }
        }
        Check.due("another FAMILY", x.tier(3, 7), 1);
        Check.due("another FAMILY", x.stop(3, 0), 11);
        Check.due("no MARKS", Check.told("tier a free;tier b cut a;").tier(1, 7), 0);
    }

    private static void firstOfTwo() {
        SpeechTiers x = Check.told("tier a free;tier p points a;mark a 0 5;mark a 5 9;point p 5;point p 4;point p 6;");
        Check.due("of the first alone", x.mark(1, 0, 3), 0);
        Check.due("that two have", x.mark(1, 1, 3), 0);
        Check.due("of the second alone", x.mark(1, 2, 3), 1);
        Check.due("the first has it", x.mark(0, 0, 4), 2);
        Check.due("the second has not", x.mark(0, 1, 4), 1);
        x.take(0, 0);
        Check.due("the second has it then", x.mark(1, 0, 3), 0);
    }

    // ---- PUT, TAKEN AWAY

    private static void putAndTaken() {
        Check.sentence("with it each CUT below it has one MARK more, as long, without a LABEL (and so on)",
                EdgeTermsTest::putWithPieces);
        Check.sentence("of FREE, IN: the MARK goes, with all MARKS of TIERS below it that lie in it",
                EdgeTermsTest::takenWithAll);
        Check.sentence("and all POINTS of these that are in no MARK of their PARENT then", EdgeTermsTest::takenPoints);
        Check.sentence("of CUT: the MARK ahead of it in the same one of the PARENT goes on to its TO",
                EdgeTermsTest::takenAhead);
        Check.sentence("(if there is none, the one behind it begins at its FROM)", EdgeTermsTest::takenBehind);
        Check.sentence("nothing else changes", EdgeTermsTest::takenNothingElse);
        Check.sentence("not the only one there", EdgeTermsTest::takenOnlyOne);
        Check.sentence("of POINTS: it goes", EdgeTermsTest::takenPoint);
    }

    private static void putWithPieces() {
        SpeechTiers x = Check.told("tier a free;tier b cut a;tier c cut b;tier d in a;tier e cut d;tier f cut c;");
        Check.due("put", x.put(0, 5, 9), 0);
        int[] more = {1, 1, 1, 0, 0, 1};
        for (int t = 0; t < 6; t++) {
            Check.due("MARKS of " + t, x.tier(t, 2), more[t]);
        }
        for (int t : new int[] {0, 1, 2, 5}) {
            Check.marks("as long, without a LABEL", x, t, "5-9");
        }
        Check.due("put of IN", x.put(3, 6, 7), 0);
        Check.marks("its CUT", x, 4, "6-7");
        Check.marks("no other CUT", x, 1, "5-9");
        SpeechTiers y = Check.told("tier a free;tier b cut a;mark a 5 9 k;");
        Check.marks("the LABEL is of the MARK alone", y, 1, "5-9");
    }

    private static void takenWithAll() {
        String text = "tier a free;tier b cut a;tier c in b;tier d cut c;tier e free;mark a 0 10;mark a 10 20;"
                + "split b 5;split b 15;mark c 0 5;mark c 5 10;mark c 10 11;split d 3;mark e 2 3;";
        SpeechTiers x = Check.told(text);
        Check.due("one, two, two and three", x.take(0, 0), 8);
        Check.marks("FREE", x, 0, "10-20");
        Check.marks("CUT", x, 1, "10-15 15-20");
        Check.marks("IN", x, 2, "10-11");
        Check.marks("CUT of IN", x, 3, "10-11");
        Check.marks("another FAMILY", x, 4, "2-3");
        SpeechTiers y = Check.told(text);
        Check.due("of IN: one and two", y.take(2, 0), 3);
        Check.marks("what is above stays", y, 1, "0-5 5-10 10-15 15-20");
        Check.marks("what touches stays", y, 2, "5-10 10-11");
        Check.due("nothing hangs on it", Check.told("tier a free;mark a 0 1;").take(0, 0), 1);
    }

    private static void takenPoints() {
        String text = "tier a free;tier b cut a;tier p points a;tier q points b;mark a 0 10;mark a 10 20;mark a 21 30;"
                + "point p 0;point p 10;point p 20;point q 10;point q 11;";
        SpeechTiers x = Check.told(text);
        Check.due("two MARKS, one POINT", x.take(0, 0), 3);
        Check.marks("at TO that another one has", x, 2, "10-10 20-20");
        SpeechTiers y = Check.told(text);
        Check.due("two MARKS, two POINTS", y.take(0, 1), 4);
        Check.marks("at FROM that another one has", y, 2, "0-0 10-10");
        Check.marks("in no MARK of their own PARENT", y, 3, "10-10");
        Check.due("then that goes, too", y.take(0, 0), 5);
        Check.due("what is left", y.told(1), 2);
    }

    private static void takenAhead() {
        SpeechTiers x = Check.told("tier a free;tier b cut a;mark a 0 10;mark a 10 20;"
                + "split b 3 k;split b 6 l;split b 15 m;");
        Check.due("one goes", x.take(1, 1), 1);
        Check.marks("the one ahead", x, 1, "0-6 6-10:l 10-15 15-20:m");
        Check.due("the last of them", x.take(1, 1), 1);
        Check.marks("the one ahead, not one of another", x, 1, "0-10 10-15 15-20:m");
    }

    private static void takenBehind() {
        SpeechTiers x = Check.told("tier a free;tier b cut a;mark a 0 10;mark a 10 20;split b 3 k;split b 15 m;");
        Check.due("one goes", x.take(1, 2), 1);
        Check.marks("not the one ahead in another", x, 1, "0-3 3-10:k 10-20:m");
        Check.due("the very first", x.take(1, 0), 1);
        Check.marks("the one behind", x, 1, "0-10:k 10-20:m");
    }

    private static void takenNothingElse() {
        SpeechTiers x = Check.told("tier a free;tier b cut a;tier c cut b;tier d in b;tier p points b;mark a 0 10 k;"
                + "split b 5;split c 7;mark d 5 6;point p 5;");
        x.take(1, 1);
        Check.marks("PARENT", x, 0, "0-10:k");
        Check.marks("CUT below", x, 2, "0-5 5-7 7-10");
        Check.marks("IN below", x, 3, "5-6");
        Check.marks("POINTS below", x, 4, "5-5");
        Check.due("it still lies in one", x.mark(3, 0, 3), 0);
    }

    private static void takenOnlyOne() {
        SpeechTiers x = Check.told("tier a free;tier b cut a;mark a 0 10;mark a 10 20;mark a 20 30;split b 5;");
        long print = x.print();
        Check.state("between two others", () -> x.take(1, 2));
        Check.state("the last", () -> x.take(1, 3));
        Check.due("nothing changed", x.print(), print);
        x.take(1, 1);
        Check.state("the first, now alone", () -> x.take(1, 0));
    }

    private static void takenPoint() {
        SpeechTiers x = Check.told("tier a free;tier p points a;tier q points;mark a 0 5;point p 0;point p 5;point q 3;");
        Check.due("with a PARENT", x.take(1, 0), 1);
        Check.marks("the other one stays", x, 1, "5-5");
        Check.marks("the PARENT's stays", x, 0, "0-5");
        Check.due("without, the only one", x.take(2, 0), 1);
        Check.due("none is left", x.tier(2, 2), 0);
    }

    // ---- SPLIT, JOINED

    private static void splitAndJoined() {
        Check.sentence("SPLIT at a TIME between FROM and TO: two MARKS, both with the LABEL", EdgeTermsTest::splitBetween);
        Check.sentence("with it all MARKS of CUT below it that have the TIME between FROM and TO",
                EdgeTermsTest::splitBelow);
        Check.sentence("not, if a MARK of IN below it has (below: of all TIERS below its TIER)",
                EdgeTermsTest::splitIn);
        Check.sentence("JOINED: where that begins as it ends", EdgeTermsTest::joinTouching);
        Check.sentence("(and has the same one of the PARENT, if there is a PARENT)", EdgeTermsTest::joinSameParent);
        Check.sentence("one MARK with the LABEL of the first", EdgeTermsTest::joinLabel);
    }

    private static void splitBetween() {
        SpeechTiers x = Check.told("tier a free;mark a 10 20 k;mark a 30 31;");
        Check.argument("at FROM", () -> x.split(0, 0, 10));
        Check.argument("at TO", () -> x.split(0, 0, 20));
        Check.argument("no TIME is between", () -> x.split(0, 1, 30));
        Check.argument("no TIME is between", () -> x.split(0, 1, 31));
        Check.due("one behind FROM", x.split(0, 0, 11), 1);
        Check.due("one ahead of TO", x.split(0, 1, 19), 1);
        Check.marks("all with the LABEL", x, 0, "10-11:k 11-19:k 19-20:k 30-31");
    }

    private static void splitBelow() {
        SpeechTiers x = Check.told("tier a free;tier b cut a;tier c cut b;tier d cut a;mark a 0 10;"
                + "split c 4 m;label d 0 n;label b 0 o;");
        Check.due("c ends there already", x.split(0, 0, 4), 3);
        Check.marks("b", x, 1, "0-4:o 4-10:o");
        Check.marks("c", x, 2, "0-4 4-10:m");
        Check.marks("d", x, 3, "0-4:n 4-10:n");
        Check.due("one more each", x.split(0, 0, 3), 4);
        Check.marks("c", x, 2, "0-3 3-4 4-10:m");
        Check.due("nothing above is split", x.split(1, 2, 9), 2);
        Check.marks("a", x, 0, "0-3 3-4 4-10");
        Check.marks("beside", x, 3, "0-3:n 3-4:n 4-10:n");
    }

    private static void splitIn() {
        String text = "tier a free;tier b cut a;tier c in b;tier d cut c;tier e in a;mark a 0 20;mark c 5 8;mark e 10 13;";
        SpeechTiers x = Check.told(text);
        long print = x.print();
        Check.state("IN right below, its first TIME", () -> x.split(0, 0, 11));
        Check.state("IN right below, its last TIME", () -> x.split(0, 0, 12));
        Check.state("IN of a CUT, its first TIME", () -> x.split(0, 0, 6));
        Check.state("IN of a CUT, its last TIME", () -> x.split(0, 0, 7));
        Check.state("of CUT itself", () -> x.split(1, 0, 6));
        Check.due("nothing changed", x.print(), print);
        Check.due("no act", x.told(3), 0);
        Check.due("where IN begins", x.split(0, 0, 5), 2);
        Check.due("where IN ends", x.split(0, 1, 8), 2);
        Check.due("IN that is not below", x.split(1, 2, 11), 1);
        Check.due("of IN itself", x.split(2, 0, 6), 2);
    }

    private static void joinTouching() {
        SpeechTiers x = Check.told("tier a free;mark a 0 5;mark a 6 9;mark a 9 10;");
        Check.state("one TIME between", () -> x.join(0, 0));
        Check.due("touching", x.join(0, 1), 10);
        Check.state("there is no next one", () -> x.join(0, 1));
        x.move(0, 5, 4);
        Check.state("still not", () -> x.join(0, 0));
        x.put(0, 4, 6);
        Check.due("filled", x.join(0, 0), 6);
        Check.due("filled", x.join(0, 0), 10);
        Check.marks("one", x, 0, "0-10");
    }

    private static void joinSameParent() {
        SpeechTiers x = Check.told("tier a free;tier b cut a;tier c in b;mark a 0 10;mark a 10 20;split b 5;"
                + "mark c 3 5;mark c 5 8;mark c 8 10;mark c 10 11;");
        Check.state("CUT, of another", () -> x.join(1, 1));
        Check.state("IN, of another", () -> x.join(2, 0));
        Check.state("IN, of another of another", () -> x.join(2, 2));
        Check.due("IN, of the same", x.join(2, 1), 10);
        Check.due("CUT, of the same", x.join(1, 0), 10);
        Check.due("IN, now of the same", x.join(2, 0), 10);
        Check.due("without a PARENT", x.join(0, 0), 20);
        Check.due("CUT, now of the same", x.join(1, 0), 20);
    }

    private static void joinLabel() {
        SpeechTiers x = Check.told("tier a free;mark a 0 5;mark a 5 9 k;mark a 9 12 l;");
        x.join(0, 1);
        Check.marks("the first one's", x, 0, "0-5 5-12:k");
        x.join(0, 0);
        Check.marks("the first one's, none", x, 0, "0-12");
    }

    // ---- MOVED, SILENCE

    private static void movedAndSilent() {
        Check.sentence("MOVED: greater than the STOP ahead of it", EdgeTermsTest::movedAhead);
        Check.sentence("less than the one behind", EdgeTermsTest::movedBehind);
        Check.sentence("(0 to 999)", EdgeTermsTest::movedToEnds);
        Check.sentence("all MARKS of the FAMILY that begin or end there do so at that TIME then, POINTS there are there",
                EdgeTermsTest::movedWithAll);
        Check.sentence("SILENCE of so much behind a TIME: all STOPS greater than that are so much greater",
                EdgeTermsTest::silence);
    }

    private static void movedAhead() {
        SpeechTiers x = Check.told("tier a free;tier p points a;mark a 10 20;point p 15;");
        Check.state("at the STOP ahead, a POINT", () -> x.move(0, 20, 15));
        Check.state("past it", () -> x.move(0, 20, 14));
        Check.due("one greater", x.move(0, 20, 16), 1);
        Check.state("at the STOP ahead, a FROM", () -> x.move(1, 15, 10));
        Check.due("one greater", x.move(1, 15, 11), 1);
        SpeechTiers y = Check.told("tier a free;mark a 0 5;mark a 9 12;");
        Check.state("at the STOP ahead, a TO", () -> y.move(0, 9, 5));
        Check.due("one greater", y.move(0, 9, 6), 1);
    }

    private static void movedBehind() {
        SpeechTiers x = Check.told("tier a free;tier p points a;mark a 10 20;point p 15;");
        Check.state("at the STOP behind, a POINT", () -> x.move(0, 10, 15));
        Check.state("past it", () -> x.move(0, 10, 16));
        Check.due("one less", x.move(0, 10, 14), 1);
        Check.state("at the STOP behind, a TO", () -> x.move(1, 15, 20));
        Check.due("one less", x.move(1, 15, 19), 1);
        SpeechTiers y = Check.told("tier a free;mark a 0 5;mark a 9 12;");
        Check.state("at the STOP behind, a FROM", () -> y.move(0, 5, 9));
        Check.due("one less", y.move(0, 5, 8), 1);
    }

    private static void movedToEnds() {
        SpeechTiers x = Check.told("tier a free;mark a 10 20;");
        Check.argument("ahead of 0", () -> x.move(0, 10, -1));
        Check.argument("behind 999", () -> x.move(0, 20, 1000));
        Check.due("to 0", x.move(0, 10, 0), 1);
        Check.due("to 999", x.move(0, 20, 999), 1);
        Check.due("from 0", x.move(0, 0, 998), 1);
        Check.marks("there", x, 0, "998-999");
        SpeechTiers y = Check.told("tier p points;point p 5;");
        Check.due("the only STOP to 999", y.move(0, 5, 999), 1);
        Check.due("the only STOP to 0", y.move(0, 999, 0), 1);
    }

    private static void movedWithAll() {
        SpeechTiers x = Check.told("tier a free;tier b cut a;tier c in a;tier p points b;tier q points;"
                + "mark a 0 10;mark a 10 20;mark c 10 11;point p 10;point q 10;");
        Check.due("two of a, two of b, one of c, one POINT", x.move(2, 10, 9), 6);
        Check.marks("a", x, 0, "0-9 9-20");
        Check.marks("b", x, 1, "0-9 9-20");
        Check.marks("c", x, 2, "9-11");
        Check.marks("p", x, 3, "9-9");
        Check.marks("another FAMILY stays", x, 4, "10-10");
    }

    private static void silence() {
        SpeechTiers x = Check.told("tier a free;tier p points;mark a 0 10;mark a 10 20;point p 10;point p 11;");
        Check.due("one of a, one of p", x.silence(10, 5), 2);
        Check.marks("a STOP at the TIME stays", x, 0, "0-10 10-25");
        Check.marks("one behind it goes", x, 1, "10-10 16-16");
        Check.due("within MARKS: two of a, two of p", x.silence(9, 1), 4);
        Check.marks("longer", x, 0, "0-11 11-26");
    }

    // ---- GAPS, THE OTHER, numbers

    private static void gapsAndTheOther() {
        Check.sentence("GAPS of a TIER (no POINTS): between a MARK and the next one, if these do not touch",
                EdgeTermsTest::gaps);
        Check.sentence("GAPS (and have the same one of the PARENT, if there is a PARENT)", EdgeTermsTest::gapsOfParent);
        Check.sentence("THE OTHER: all TIERS and MARKS as they were at keep()", EdgeTermsTest::theOther);
        Check.sentence("THE OTHER (none at first)", EdgeTermsTest::noOther);
        Check.sentence("LABELS as numbers: letters by 5 bits each (a is 1; the first one the highest); 0: none",
                EdgeTermsTest::letters);
    }

    private static void gaps() {
        SpeechTiers x = Check.told("tier a free;tier p points;mark a 5 6;mark a 6 7;mark a 8 9;point p 0;point p 9;");
        Check.due("one", x.gaps(0, 0), 1);
        Check.due("behind the second", x.gaps(0, 1), 1);
        Check.due("of one TIME", x.gaps(0, 2), 1);
        Check.due("POINTS have none", x.gaps(1, 0), 0);
        x.put(0, 7, 8);
        Check.due("none, and none ahead of the first or behind the last", x.gaps(0, 0), 0);
    }

    private static void gapsOfParent() {
        SpeechTiers x = Check.told("tier a free;tier b in a;tier c cut a;mark a 0 10;mark a 10 20;mark a 25 30;"
                + "mark b 1 2;mark b 4 9;mark b 11 12;mark b 15 20;mark b 26 27;");
        Check.due("within one of the PARENT", x.gaps(1, 0), 2);
        Check.due("all together", x.gaps(1, 3), 5);
        Check.due("CUT has none, though its PARENT has", x.gaps(2, 0), 0);
        Check.due("FREE", x.gaps(0, 3), 5);
    }

    private static void theOther() {
        SpeechTiers x = Check.told("tier a free;tier b cut a;mark a 0 5 k;");
        Check.due("keep", x.keep(), 2);
        x.label(0, 0, 0);
        x.move(0, 5, 9);
        x.put(0, 20, 30);
        Check.due("as many as there were", x.told(5), 2);
        Check.due("the LABEL that was there", x.agree(0, 1), 5);
        Check.due("nothing more there", x.agree(0, 3), 0);
        Check.tell(x, "tier b free;");
        Check.due("its TIERS, by NAME", x.agree(0, 3), 5);
        Check.due("keep none", x.keep(), 0);
        Check.due("none from now on", x.agree(0, 3), 0);
    }

    private static void noOther() {
        SpeechTiers x = Check.told("tier a free;mark a 0 5;");
        Check.due("told", x.told(5), -1);
        Check.due("adopt", x.adopt(0), -1);
        Check.due("snap", x.snap(0, 1), -1);
        Check.due("agree", x.agree(0, 0), -1);
        Check.due("same", x.same(0, 0, 0), -1);
    }

    private static void letters() {
        SpeechTiers x = Check.told("tier a free;mark a 0 1 a;mark a 1 2 z;mark a 2 3 ab;mark a 3 4 zzzz;mark a 4 5;"
                + "mark a 5 6 aaa;");
        int[] due = {1, 26, 34, ((26 * 32 + 26) * 32 + 26) * 32 + 26, 0, (1 * 32 + 1) * 32 + 1};
        for (int m = 0; m < due.length; m++) {
            Check.due("LABEL of " + m, x.mark(0, m, 2), due[m]);
        }
    }
}
