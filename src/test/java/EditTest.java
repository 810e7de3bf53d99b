/** Promises 5 to 12 and 15: put, point, take, split, join, move, silence, label, undo. */
public final class EditTest {
    // words, their syllables, gestures within syllables, sounds that cut gestures, beats, noises
    private static final String SPEECH = "tier w free;tier s cut w;tier g in s;tier o cut g;"
            + "tier b points w;tier n points;";

    public static void main(String[] args) {
        puts();
        putsRefused();
        points();
        takes();
        takesOfPieces();
        splits();
        splitsRefused();
        forties();
        joins();
        moves();
        silences();
        labels();
        undoes();
        Check.finish();
    }

    private static void puts() {
        SpeechTiers x = Check.told(SPEECH);
        Check.due("put", x.put(0, 100, 200), 0);
        Check.due("put ahead", x.put(0, 0, 50), 0);
        Check.due("put touching both", x.put(0, 50, 100), 1);
        Check.due("put at the end", x.put(0, 998, 999), 3);
        Check.marks("put", x, 0, "0-50 50-100 100-200 998-999");
        Check.marks("put", x, 1, "0-50 50-100 100-200 998-999");
        Check.marks("nothing in", x, 2, "");
        Check.marks("nothing of what is not there", x, 3, "");
        Check.due("put in", x.put(2, 50, 100), 0);
        Check.due("put in", x.put(2, 10, 20), 0);
        Check.due("put in", x.put(2, 20, 30), 1);
        Check.marks("cut of in", x, 3, "10-20 20-30 50-100");
        Check.marks("the parent stays", x, 1, "0-50 50-100 100-200 998-999");
        Check.due("told(1)", x.told(1), 14);
    }

    private static void putsRefused() {
        SpeechTiers x = Check.told(SPEECH + "mark w 50 100;mark w 100 200;split s 120;mark g 60 70;");
        long print = x.print();
        Check.missing("no such tier", () -> x.put(6, 0, 1));
        Check.missing("no such tier", () -> x.put(-1, -1, -1));
        Check.argument("from", () -> x.put(0, -1, 5));
        Check.argument("from above", () -> x.put(0, 1000, 1001));
        Check.argument("to", () -> x.put(0, 990, 1000));
        Check.argument("to not greater", () -> x.put(0, 5, 5));
        Check.argument("ahead of the kind", () -> x.put(1, 6, 5));
        Check.state("cut", () -> x.put(1, 0, 5));
        Check.state("points", () -> x.put(5, 0, 5));
        Check.state("overlap", () -> x.put(0, 0, 51));
        Check.state("overlap", () -> x.put(0, 199, 300));
        Check.state("inside", () -> x.put(0, 60, 70));
        Check.state("around", () -> x.put(0, 0, 999));
        Check.state("alike", () -> x.put(0, 50, 100));
        Check.state("in none", () -> x.put(2, 0, 10));
        Check.state("in two", () -> x.put(2, 90, 110));
        Check.state("in two pieces", () -> x.put(2, 110, 130));
        Check.state("partly in", () -> x.put(2, 190, 201));
        Check.state("in, overlap", () -> x.put(2, 69, 80));
        Check.due("nothing changed", x.print(), print);
        Check.due("no act", x.told(3), 0);
        Check.due("status(0)", x.status(0), 2);
        Check.due("status(1)", x.status(1), 5);
        Check.due("status(2)", x.status(2), 12);
    }

    private static void points() {
        SpeechTiers x = Check.told(SPEECH + "mark w 50 100;mark w 100 200;");
        Check.due("point", x.point(4, 100), 0);
        Check.due("point at from", x.point(4, 50), 0);
        Check.due("point at to", x.point(4, 200), 2);
        Check.due("point without a parent", x.point(5, 999), 0);
        Check.due("point without a parent", x.point(5, 0), 0);
        Check.marks("points", x, 4, "50-50 100-100 200-200");
        Check.marks("points", x, 5, "0-0 999-999");
        Check.missing("tier", () -> x.point(6, -1));
        Check.argument("time", () -> x.point(4, -1));
        Check.argument("time", () -> x.point(0, 1000));
        Check.state("kind", () -> x.point(0, 60));
        Check.state("kind", () -> x.point(1, 60));
        Check.state("kind", () -> x.point(2, 60));
        Check.state("the same time", () -> x.point(4, 100));
        Check.state("in none", () -> x.point(4, 49));
        Check.state("in none", () -> x.point(4, 201));
        Check.due("acts", x.told(3), 5);
    }

    private static void takes() {
        String text = SPEECH + "mark w 50 100;mark w 100 200;mark w 300 310;split s 70;"
                + "mark g 50 60;mark g 60 70;mark g 100 110;split o 55;"
                + "point b 50;point b 100;point b 300;point n 60;";
        SpeechTiers x = Check.told(text);
        Check.due("take with all below", x.take(0, 0), 9);
        Check.marks("words", x, 0, "100-200 300-310");
        Check.marks("pieces", x, 1, "100-200 300-310");
        Check.marks("in", x, 2, "100-110");
        Check.marks("cut of in", x, 3, "100-110");
        Check.marks("a beat that another one has stays", x, 4, "100-100 300-300");
        Check.marks("of another family", x, 5, "60-60");
        Check.due("take, with the beat", x.take(0, 0), 5);
        Check.marks("beats", x, 4, "300-300");
        Check.due("take a point", x.take(4, 0), 1);
        Check.due("take", x.take(0, 0), 2);
        Check.due("only the noise is left", x.told(1), 1);
        SpeechTiers y = Check.told(text);
        Check.due("take of in", y.take(2, 0), 3);
        Check.marks("in", y, 2, "60-70 100-110");
        Check.marks("cut of in", y, 3, "60-70 100-110");
        Check.marks("the parent stays", y, 1, "50-70 70-100 100-200 300-310");
        Check.missing("mark", () -> y.take(0, 3));
        Check.missing("mark", () -> y.take(0, -1));
        Check.missing("tier", () -> y.take(6, 0));
        SpeechTiers z = Check.told("tier a free;tier b cut a;tier c points b;mark a 0 5;mark a 5 9;split b 3;"
                + "point c 3;point c 5;point c 6;point c 0;");
        Check.due("points deeper below", z.take(0, 0), 5);
        Check.marks("points deeper below", z, 2, "5-5 6-6");
    }

    private static void takesOfPieces() {
        SpeechTiers x = Check.told("tier a free;tier b cut a;tier c cut b;tier d in b;tier p points b;"
                + "mark a 0 10;mark a 10 20;split b 4 x;split b 7 y;split c 5 z;mark d 4 6;point p 7;");
        Check.marks("pieces", x, 1, "0-4 4-7:x 7-10:y 10-20");
        Check.state("the only one", () -> x.take(1, 3));
        Check.due("take: the one ahead goes on", x.take(1, 1), 1);
        Check.marks("pieces", x, 1, "0-7 7-10:y 10-20");
        Check.due("an act", x.undo(), 0);
        Check.marks("taken back", x, 1, "0-4 4-7:x 7-10:y 10-20");
        x.take(1, 1);
        Check.marks("nothing else", x, 2, "0-4 4-5 5-7:z 7-10 10-20");
        Check.marks("nothing else", x, 3, "4-6");
        Check.marks("nothing else", x, 4, "7-7");
        Check.due("take: the one behind begins", x.take(1, 0), 1);
        Check.marks("pieces", x, 1, "0-10:y 10-20");
        Check.state("the only one", () -> x.take(1, 0));
        Check.due("now c may lose any but the last", x.take(2, 3), 1);
        Check.state("but only in b's", () -> x.take(2, 3));
        Check.marks("pieces of pieces", x, 2, "0-4 4-5 5-10:z 10-20");
    }

    private static void splits() {
        SpeechTiers x = Check.told("tier a free;tier b cut a;tier c cut b;tier d in c;tier e cut d;tier p points a;"
                + "mark a 0 10 m;mark a 20 30;label b 5 n;split c 4 o;mark d 4 6 q;mark d 6 9;point p 6;");
        Check.due("split with two tiers below", x.split(0, 0, 6), 3);
        Check.marks("a", x, 0, "0-6:m 6-10:m 20-30");
        Check.marks("b", x, 1, "0-6:n 6-10:n 20-30");
        Check.marks("c", x, 2, "0-4 4-6:o 6-10:o 20-30");
        Check.marks("d", x, 3, "4-6:q 6-9");
        Check.due("split where a piece ends", x.split(0, 0, 4), 2);
        Check.marks("c", x, 2, "0-4 4-6:o 6-10:o 20-30");
        Check.due("split of in, with its pieces", x.split(3, 0, 5), 2);
        Check.marks("d", x, 3, "4-5:q 5-6:q 6-9");
        Check.marks("e", x, 4, "4-5 5-6 6-9");
        Check.due("split of a piece alone", x.split(4, 2, 8), 1);
        Check.due("split at the least", x.split(2, 3, 21), 1);
        Check.due("split at the greatest", x.split(2, 4, 29), 1);
        Check.marks("c", x, 2, "0-4 4-6:o 6-10:o 20-21 21-29 29-30");
        Check.marks("points stay", x, 5, "6-6");
    }

    private static void splitsRefused() {
        SpeechTiers x = Check.told("tier a free;tier b cut a;tier d in b;tier p points a;"
                + "mark a 0 10;mark a 20 21;mark d 4 7;point p 6;");
        Check.missing("tier", () -> x.split(4, 0, 5));
        Check.missing("mark", () -> x.split(0, 2, 5));
        Check.missing("mark", () -> x.split(3, 1, 5));
        Check.state("points", () -> x.split(3, 0, 6));
        Check.state("points, whatever the time", () -> x.split(3, 0, -5));
        Check.argument("at from", () -> x.split(0, 0, 0));
        Check.argument("at to", () -> x.split(0, 0, 10));
        Check.argument("beyond", () -> x.split(0, 0, 15));
        Check.argument("no time", () -> x.split(0, 0, Integer.MIN_VALUE));
        Check.argument("nothing between", () -> x.split(0, 1, 20));
        Check.state("in below", () -> x.split(0, 0, 5));
        Check.state("in right below", () -> x.split(1, 0, 6));
        Check.due("not at its end", x.split(0, 0, 4), 2);
        Check.due("acts", x.told(3), 1);
    }

    private static void forties() {
        SpeechTiers x = Check.told("tier a free;tier b cut a;tier c cut b;tier p points;mark a 0 90;");
        for (int i = 0; i < 39; i++) {
            x.split(2, i, i + 1);
            x.point(3, i);
        }
        x.point(3, 39);
        Check.due("40", x.tier(2, 2), 40);
        Check.state("a 41st piece", () -> x.split(2, 39, 50));
        Check.state("a 41st piece, two tiers above", () -> x.split(0, 0, 50));
        Check.due("no piece more", x.split(0, 0, 20), 2);
        Check.state("a 41st piece of a mark that comes", () -> x.put(0, 100, 200));
        Check.state("a 41st point", () -> x.point(3, 40));
        x.take(2, 39);
        Check.due("39", x.put(0, 100, 200), 2);
        SpeechTiers y = Check.told("tier a free;");
        for (int i = 0; i < 40; i++) {
            Check.due("put", y.put(0, 2 * i, 2 * i + 2), i);
        }
        Check.due("forty moved", y.move(0, 80, 81), 1);
        Check.due("forty silent", y.silence(0, 900), 40);
        y.undo();
        y.undo();
        Check.state("a 41st", () -> y.put(0, 80, 81));
        Check.state("a 41st", () -> y.split(0, 0, 1));
    }

    private static void joins() {
        SpeechTiers x = Check.told("tier a free;tier b cut a;tier d in a;tier p points a;"
                + "mark a 0 10 m;mark a 10 20 n;mark a 21 30;split b 4 x;mark d 2 3;mark d 3 5 y;mark d 9 10;mark d 10 11;"
                + "point p 10;point p 11;");
        Check.state("another one of the parent", () -> x.join(1, 1));
        Check.state("another one of the parent", () -> x.join(2, 2));
        Check.state("does not touch", () -> x.join(2, 1));
        Check.state("does not touch", () -> x.join(0, 1));
        Check.state("there is none", () -> x.join(0, 2));
        Check.state("points", () -> x.join(3, 0));
        Check.state("points", () -> x.join(3, 1));
        Check.missing("mark", () -> x.join(0, 3));
        Check.missing("tier", () -> x.join(-1, 0));
        Check.due("join of in", x.join(2, 0), 5);
        Check.marks("in", x, 2, "2-5 9-10 10-11");
        Check.due("join", x.join(0, 0), 20);
        Check.marks("the label of the first", x, 0, "0-20:m 21-30");
        Check.marks("nothing below", x, 1, "0-4 4-10:x 10-20 21-30");
        Check.due("join of pieces, now of one", x.join(1, 1), 20);
        Check.due("join of in, now of one", x.join(2, 1), 11);
        Check.marks("pieces", x, 1, "0-4 4-20:x 21-30");
    }

    private static void moves() {
        SpeechTiers x = Check.told("tier a free;tier b cut a;tier p points a;tier q points;"
                + "mark a 10 20;mark a 20 30;split b 15;point p 20;point p 25;point q 20;point q 22;");
        Check.due("move, from any tier of the family", x.move(2, 20, 24), 5);
        Check.marks("a", x, 0, "10-24 24-30");
        Check.marks("b", x, 1, "10-15 15-24 24-30");
        Check.marks("p", x, 2, "24-24 25-25");
        Check.marks("another family", x, 3, "20-20 22-22");
        Check.state("at the stop behind", () -> x.move(0, 24, 25));
        Check.state("at the stop ahead", () -> x.move(0, 24, 15));
        Check.state("beyond", () -> x.move(0, 24, 31));
        Check.due("to where it is", x.move(0, 24, 24), 5);
        Check.due("to the least", x.move(0, 24, 16), 5);
        Check.due("the first to 0", x.move(0, 10, 0), 2);
        Check.due("the last to 999", x.move(1, 30, 999), 2);
        Check.marks("a", x, 0, "0-16 16-999");
        Check.missing("tier", () -> x.move(4, 0, -1));
        Check.missing("no stop", () -> x.move(0, 20, 1000));
        Check.missing("a stop of another family", () -> x.move(0, 22, 21));
        Check.missing("no time at all", () -> x.move(0, -1, 5));
        Check.argument("time", () -> x.move(0, 0, -1));
        Check.argument("time", () -> x.move(0, 999, 1000));
        Check.due("points alone", x.move(3, 20, 0), 1);
        Check.state("points keep their order", () -> x.move(3, 0, 22));
    }

    private static void silences() {
        SpeechTiers x = Check.told("tier a free;tier b cut a;tier p points a;tier q points;"
                + "mark a 10 20;mark a 20 30;split b 15;point p 20;point p 25;point q 20;point q 30;");
        Check.due("silence", x.silence(15, 100), 5);
        Check.marks("a", x, 0, "10-120 120-130");
        Check.marks("b", x, 1, "10-15 15-120 120-130");
        Check.marks("p", x, 2, "120-120 125-125");
        Check.marks("q", x, 3, "120-120 130-130");
        Check.due("behind all", x.silence(130, 999), 0);
        Check.due("is an act", x.told(3), 2);
        Check.state("above 999", () -> x.silence(129, 870));
        Check.due("to 999", x.silence(129, 869), 2);
        Check.argument("time", () -> x.silence(-1, 5));
        Check.argument("time", () -> x.silence(1000, 5));
        Check.argument("length", () -> x.silence(5, 0));
        Check.argument("length", () -> x.silence(5, 1000));
        Check.argument("ahead of what it would do", () -> x.silence(0, 1000));
        Check.state("above 999", () -> x.silence(0, 1));
        Check.state("above 999", () -> x.silence(998, 1));
        Check.due("none is greater", x.silence(999, 999), 0);
        SpeechTiers y = Check.told("tier q points;point q 0;point q 999;tier a free;mark a 0 5;");
        Check.state("a point above 999", () -> y.silence(0, 1));
        y.take(0, 1);
        Check.due("not at 0", y.silence(0, 994), 1);
        Check.marks("longer", y, 1, "0-999");
    }

    private static void labels() {
        SpeechTiers x = Check.told("tier a free;mark a 0 5 abcd;tier p points;point p 3;");
        Check.due("label", x.label(0, 0, Check.letters("zzzz")), Check.letters("abcd"));
        Check.due("label", x.label(0, 0, 0), Check.letters("zzzz"));
        Check.due("label", x.label(0, 0, 1), 0);
        Check.due("label", x.label(1, 0, 26), 0);
        Check.marks("label", x, 0, "0-5:a");
        Check.marks("label", x, 1, "3-3:z");
        int[] none = {-1, 27, 31, 32, 33 << 5, 27 << 5 | 1, 31 << 15 | 1057, 1 << 20, 1 << 20 | 33825, 1082401,
            Integer.MAX_VALUE, Integer.MIN_VALUE};
        for (int letters : none) {
            Check.argument("letters " + letters, () -> x.label(0, 0, letters));
        }
        Check.due("acts", x.told(3), 4);
        Check.missing("mark", () -> x.label(0, 1, -1));
        Check.missing("tier", () -> x.label(2, 0, -1));
        Check.due("the same again is an act", x.label(0, 0, 1), 1);
        Check.due("acts", x.told(3), 5);
    }

    private static void undoes() {
        SpeechTiers x = Check.told("tier a free;tier b cut a;tier p points a;mark a 0 50;mark a 50 60;");
        long[] print = new long[40];
        int acts = 0;
        print[acts++] = x.print();
        x.put(0, 70, 80);
        print[acts++] = x.print();
        x.point(2, 75);
        print[acts++] = x.print();
        x.take(2, 0);
        x.undo();
        x.take(0, 0);
        print[acts++] = x.print();
        x.split(0, 0, 55);
        print[acts++] = x.print();
        x.join(0, 0);
        print[acts++] = x.print();
        x.move(0, 80, 90);
        print[acts++] = x.print();
        x.silence(60, 7);
        print[acts++] = x.print();
        x.label(0, 0, 5);
        print[acts++] = x.print();
        Check.state("a refusal", () -> x.put(0, 50, 60));
        x.at(0, 55);
        Check.due("told(3)", x.told(3), 8);
        for (int i = 7; i >= 0; i--) {
            Check.due("undo", x.undo(), i);
            Check.due("as ahead of act " + i, x.print(), print[i]);
        }
        Check.due("none could", x.undo(), -1);
        Check.due("nothing changed", x.print(), print[0]);
        for (int i = 0; i < 14; i++) {
            print[i] = x.print();
            x.label(0, 0, i + 1);
            Check.due("told(3)", x.told(3), Math.min(12, i + 1));
        }
        x.undo();
        x.label(0, 1, 20);
        x.undo();
        for (int i = 12; i >= 2; i--) {
            Check.due("undo", x.undo(), i - 2);
            Check.due("as ahead of act " + i, x.print(), print[i]);
        }
        Check.due("the latest 12 alone", x.undo(), -1);
    }
}
