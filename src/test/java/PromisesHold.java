/** For each promise of the document: ordinary inputs, the edges that it names, and wrong inputs. */
public final class PromisesHold {
    private static final int[] WRONG = {Integer.MIN_VALUE, -1000, -3, 1000, Integer.MAX_VALUE};
    private static final String SMALL = "s3 2 123 940;t20 10 2 7;t9 9 1 4;t5 6 0 50;t30 0 5 9; b5;l3;";

    private static int wrong = 0;

    private static void due(String what, long got, long want) {
        if (got != want) {
            wrong++;
            System.out.println(what + " answered " + got + ", due is " + want);
        }
    }

    private static void typed(LastOchre x, String text) {
        x.clear();
        for (int i = 0; i < text.length(); i++) {
            x.type(text.charAt(i));
        }
    }

    private static LastOchre told(String text) {
        LastOchre x = new LastOchre();
        typed(x, text);
        if (x.hill() < 0) {
            wrong++;
            System.out.println("not read: " + text);
        }
        return x;
    }

    private static void read(String text, int want) {
        LastOchre x = new LastOchre();
        typed(x, text);
        due("hill of '" + text + "'", x.hill(), want);
        due("bytes behind '" + text + "'", x.count(7), want < 0 ? text.length() : 0);
    }

    private static void fault(String text, int place) {
        read(text, -10 - place);
    }

    public static void main(String[] args) {
        newObject();
        typeAndClear();
        hillReads();
        hillFaults();
        hillStartsAnew();
        nothingIsLeftOfOlderTexts();
        hillFaultChangesNothing();
        cells();
        things();
        digging();
        scraping();
        painting();
        stretching();
        yearsGoBy();
        undoing();
        nowTells();
        lasting();
        firstToGo();
        needing();
        keeping();
        bestDigging();
        farAndSpare();
        richest();
        selling();
        oddsOfThieves();
        whatCame();
        fitting();
        marks();
        images();
        counts();
        constants();
        System.out.println(wrong == 0 ? "all promises hold" : wrong + " answers are not as due");
        if (wrong != 0) {
            System.exit(1);
        }
    }

    // 1
    private static void newObject() {
        LastOchre x = new LastOchre();
        int[] counts = {0, 0, 0, 5, 3, 0, 0, 0};
        for (int i = 0; i < counts.length; i++) {
            due("new count(" + i + ")", x.count(i), counts[i]);
        }
        for (int i = 0; i <= 6; i++) {
            due("new now(" + i + ")", x.now(i), 0);
        }
        due("new trace()", x.trace(), 0);
        due("new cell", x.cell(0, 0, 0), LastOchre.BAD);
        due("new thing", x.thing(0, 0), LastOchre.BAD);
        due("new digs", x.digs(0, 0), LastOchre.BAD);
        due("new undo", x.undo(), LastOchre.STATE);
        due("new back", x.back(0), LastOchre.STATE);
        due("new first", x.first(), LastOchre.NONE);
        due("new rich", x.rich(), LastOchre.NONE);
        due("new bestDig", x.bestDig(16, 0), 0);
        due("new bestDig parts", x.bestDig(16, 1), 0);
        due("new kept", x.kept(0, 1), 0);
        due("new fits", x.fits(-1), 1);
        due("new fits each", x.fits(-2), 0);
        due("new fits 0", x.fits(0), LastOchre.NONE);
    }

    // 2, 3
    private static void typeAndClear() {
        LastOchre x = new LastOchre();
        due("clear of none", x.clear(), 0);
        due("type(-1)", x.type(-1), LastOchre.BAD);
        due("type(256)", x.type(256), LastOchre.BAD);
        for (int i = 1; i <= 150; i++) {
            due("type", x.type(i == 1 ? 0 : 255), i);
        }
        due("type beyond", x.type(32), LastOchre.FULL);
        due("type bad and full", x.type(256), LastOchre.BAD);
        due("text at its end", x.count(7), 150);
        due("clear", x.clear(), 150);
        due("clear again", x.clear(), 0);
        due("type behind clear", x.type(98), 1);
        for (int c : WRONG) {
            due("type(" + c + ")", x.type(c), LastOchre.BAD);
        }
        x.clear();
        for (int i = 0; i < 150; i++) {
            x.type(32);
        }
        due("150 blanks tell nothing", x.hill(), 0);
    }

    // 4
    private static void hillReads() {
        read("", 0);
        read("   ", 0);
        read("b5;", 1);
        read("  b  10 ;  l  0 ; ", 2);
        read("s1 1 0;", 1);
        read("s4 4 1 2 34 5678 9012345 6;", 1);
        read("t0 0 0 0;t60 60 9 99;t1 2 3 4;t1 2 3 4;t1 2 3 4;t1 2 3 4;", 6);
        read("t1 2 3 4;b1;t1 2 3 4;s1 1 9;l10;", 5);
        LastOchre x = told("l10;b1;t60 59 9 99;s2 3 12 34 56;t0 1 2 3;");
        int[] counts = {2, 3, 2, 1, 10, 0, 0, 0};
        for (int i = 0; i < counts.length; i++) {
            due("told count(" + i + ")", x.count(i), counts[i]);
        }
        for (int i = 0; i < 6; i++) {
            due("told parts " + i, x.cell(i % 2, i / 2, 0), i + 1);
        }
        int[] first = {60, 59, 9, 99};
        int[] second = {0, 1, 2, 3};
        for (int i = 0; i < 4; i++) {
            due("told thing 0, " + i, x.thing(0, i), first[i]);
            due("told thing 1, " + i, x.thing(1, i), second[i]);
        }
    }

    private static void hillFaults() {
        fault(";", 0);
        fault(" ;", 1);
        fault("x1;", 0);
        fault("bb1;", 0);
        fault("sb1;", 0);
        fault("1;", 0);
        fault("B1;", 0);
        fault("b", 1);
        fault("b ", 2);
        fault("b1", 2);
        fault("b1  ", 4);
        fault("b;", 1);
        fault("b 0;", 2);
        fault("b 11;", 2);
        fault("b01;", 1);
        fault("b00;", 1);
        fault("b100;", 1);
        fault("b1000000000000000000001;", 1);
        fault("b1 1;", 3);
        fault("b1;;", 3);
        fault("b1l1;", 2);
        fault("b1;l1", 5);
        fault("b1; b2;", 4);
        fault("l1;l1;", 3);
        fault("l11;", 1);
        fault("l-1;", 1);
        fault("b\t1;", 1);
        fault("b1\n;", 2);
        fault("b1;\u00e9", 3);
        fault("b1;\u0000", 3);
        fault("s", 1);
        fault("s0 1 1;", 1);
        fault("s5 1 1;", 1);
        fault("s1 0 1;", 3);
        fault("s1 5 1;", 3);
        fault("s1 11;", 3);
        fault("s11 1;", 1);
        fault("s1 1;", 4);
        fault("s1 1", 4);
        fault("s1 1 ", 5);
        fault("s1 1 x;", 5);
        fault("s1 1 1", 6);
        fault("s1 1 00;", 6);
        fault("s1 1 1 007;", 7);
        fault("s2 2 123;", 8);
        fault("s2 2 12 3 ;", 10);
        fault("s1 1 1;b5;s1 1 1;", 10);
        fault("t", 1);
        fault("t61 0 0 0;", 1);
        fault("t0 61 0 0;", 3);
        fault("t0 0 10 0;", 5);
        fault("t0 0 0 100;", 7);
        fault("t0 0 0 0 0;", 9);
        fault("t0 0 0;", 6);
        fault("t0 0;", 4);
        fault("t0;", 2);
        fault("t00 0 0 0;", 1);
        fault("t0 0 0 0;t0 0 0 0;t0 0 0 0;t0 0 0 0;t0 0 0 0;t0 0 0 0;t0 0 0 0;", 54);
        fault("t0 0 0 0;t0 0 0 0;t0 0 0 0;t0 0 0 0;t0 0 0 0;t0 0 0 0; t", 55);
    }

    private static void hillStartsAnew() {
        LastOchre x = told("s2 1 34;t9 0 1 5;b7;l8;");
        x.digs(0, 0);
        x.years(3);
        x.came(4);
        x.keep(0);
        x.keep(1);
        x.mark(1, 0);
        typed(x, "t1 0 0 2;");
        due("hill anew", x.hill(), 1);
        int[] counts = {0, 0, 1, 5, 3, 0, 0, 0};
        for (int i = 0; i < counts.length; i++) {
            due("anew count(" + i + ")", x.count(i), counts[i]);
        }
        int[] nows = {0, 0, 0, 1, 2, 1, 0};
        for (int i = 0; i < nows.length; i++) {
            due("anew now(" + i + ")", x.now(i), nows[i]);
        }
        due("anew cell", x.cell(0, 0, 0), LastOchre.BAD);
        due("anew undo", x.undo(), LastOchre.STATE);
        due("anew back(0)", x.back(0), LastOchre.STATE);
        due("anew back(1)", x.back(1), LastOchre.STATE);
        due("anew trace", x.trace(), 11);
        typed(x, "s2 1 52;");
        due("hill once more", x.hill(), 1);
        due("anew bestDig", x.bestDig(1, 1), 5);
        due("anew fits", x.fits(-1), 1);
        typed(x, "s2 1 26;");
        x.hill();
        due("other parts, bestDig", x.bestDig(1, 0), 2);
        due("other parts, parts", x.bestDig(1, 1), 6);
    }

    private static void nothingIsLeftOfOlderTexts() {
        LastOchre x = new LastOchre();
        for (int i = 0; i < 4; i++) {
            typed(x, "s4 4 9999 9999 9999 9999;t9 9 9 9;t9 9 9 9;b9;l9;");
            due("hill", x.hill(), 5);
            x.digs(0, 0);
            due("bestDig", x.bestDig(1, 1), 9);
            x.came(9);
            due("fits", x.fits(-1), 4);
            typed(x, i % 2 == 0 ? "" : "s1 1 5;t1 0 0 1;t1 0 0 1;t1 0 0 1;t1 0 0 1;t1 0 0 1;t1 0 0 1;");
            due("hill", x.hill(), i % 2 == 0 ? 0 : 7);
            int[] counts = {i % 2, i % 2, i % 2 == 0 ? 0 : 6, 5, 3, 0, 0, 0};
            for (int what = 0; what < counts.length; what++) {
                due("count(" + what + ")", x.count(what), counts[what]);
            }
            due("parts", x.now(6), i % 2 == 0 ? 0 : 5);
            due("bestDig", x.bestDig(16, 1), i % 2 == 0 ? 0 : 5);
            due("fits", x.fits(-1), 1);
        }
        nothingIsLeftBehindTheEnd();
    }

    private static void nothingIsLeftBehindTheEnd() {
        LastOchre x = new LastOchre();
        typed(x, "bb1;");
        typed(x, "b");
        due("letters behind the end", x.hill(), -11);
        typed(x, "b11;");
        typed(x, "b1");
        due("a figure and an end behind the end", x.hill(), -12);
        typed(x, "b1;");
        typed(x, "b1");
        due("an end behind the end", x.hill(), -12);
        x = new LastOchre();
        String blanks = " ".repeat(150);
        typed(x, blanks.substring(0, 149) + "b");
        due("150 bytes, a letter", x.hill(), -160);
        typed(x, blanks.substring(0, 148) + "b1");
        due("150 bytes, a number", x.hill(), -160);
        typed(x, blanks.substring(0, 147) + "b1;");
        due("150 bytes, all of it", x.hill(), 1);
    }

    private static void hillFaultChangesNothing() {
        LastOchre x = told("s2 1 34;t9 0 1 5;b7;l8;");
        x.digs(0, 0);
        x.came(4);
        x.keep(0);
        typed(x, "s1 1 9;t60 60 1 1;b1;l1;l2;");
        due("hill refused", x.hill(), -10 - 24);
        due("refused again", x.hill(), -10 - 24);
        int[] counts = {2, 1, 1, 7, 8, 1, 1, 27};
        for (int i = 0; i < counts.length; i++) {
            due("refused count(" + i + ")", x.count(i), counts[i]);
        }
        due("refused cell", x.cell(1, 0, 0), 4);
        due("refused thing", x.thing(0, 0), 9);
        due("refused now", x.now(2), 1);
        due("refused fits", x.fits(-2), 2);
        due("refused back", x.back(0), 0);
    }

    // 5
    private static void cells() {
        LastOchre x = told(SMALL);
        due("parts", x.cell(2, 0, 0), 3);
        due("parts below", x.cell(0, 1, 0), 9);
        due("top can be dug", x.cell(2, 0, 2), 1);
        due("below can't", x.cell(2, 1, 2), 0);
        x.digs(2, 0);
        due("is dug", x.cell(2, 0, 1), 1);
        due("is not dug", x.cell(1, 0, 1), 0);
        due("not twice", x.cell(2, 0, 2), 0);
        due("beside it can", x.cell(2, 1, 2), 1);
        due("no wrap to the next row", x.cell(0, 1, 2), 0);
        due("not aslant", x.cell(1, 1, 2), 0);
        due("parts stay told", x.cell(2, 0, 0), 3);
        x.digs(2, 1);
        due("left of it can", x.cell(1, 1, 2), 1);
        due("x beyond", x.cell(3, 0, 0), LastOchre.BAD);
        due("y beyond", x.cell(0, 2, 0), LastOchre.BAD);
        due("x below", x.cell(-1, 0, 0), LastOchre.BAD);
        due("y below", x.cell(0, -1, 0), LastOchre.BAD);
        due("what beyond", x.cell(0, 0, 3), LastOchre.BAD);
        due("what below", x.cell(0, 0, -1), LastOchre.BAD);
        for (int n : WRONG) {
            due("cell x " + n, x.cell(n, 0, 0), LastOchre.BAD);
            due("cell y " + n, x.cell(0, n, 0), LastOchre.BAD);
            due("cell what " + n, x.cell(0, 0, n), LastOchre.BAD);
        }
    }

    // 6
    private static void things() {
        LastOchre x = told("t5 5 1 9;t4 5 0 0;t0 0 3 1;t60 60 9 99;b5;");
        int[] first = {5, 5, 1, 9, 1};
        for (int i = 0; i < 5; i++) {
            due("thing(0, " + i + ")", x.thing(0, i), first[i]);
        }
        due("too little yellow", x.thing(1, 4), 0);
        due("no yellow at all", x.thing(2, 4), 0);
        due("half", x.thing(3, 4), 1);
        due("thing beyond", x.thing(4, 0), LastOchre.BAD);
        due("thing below", x.thing(-1, 0), LastOchre.BAD);
        due("what beyond", x.thing(0, 5), LastOchre.BAD);
        due("what below", x.thing(0, -1), LastOchre.BAD);
        for (int n : WRONG) {
            due("thing " + n, x.thing(n, 0), LastOchre.BAD);
            due("thing what " + n, x.thing(0, n), LastOchre.BAD);
        }
        due("bound 10, no white", told("t3 0 0 0;b10;").thing(0, 4), 1);
        due("bound 10, white", told("t60 1 0 0;b10;").thing(0, 4), 0);
        due("bound 1", told("t1 9 0 0;b1;").thing(0, 4), 1);
        due("bound 1, more white", told("t1 10 0 0;b1;").thing(0, 4), 0);
    }

    // 7
    private static void digging() {
        LastOchre x = told(SMALL);
        due("below first", x.digs(1, 1), LastOchre.STATE);
        due("none is undone of a refusal", x.count(6), 0);
        due("digs", x.digs(1, 0), 2);
        due("digs again", x.digs(1, 0), LastOchre.STATE);
        due("digs below", x.digs(1, 1), 6);
        due("digs beside", x.digs(0, 1), 15);
        due("digs upward, too", x.digs(0, 0), 16);
        due("digs an empty one", x.digs(2, 1), 16);
        due("dug", x.now(2), 59);
        due("may be undone", x.count(6), 5);
        due("x beyond", x.digs(3, 0), LastOchre.BAD);
        due("y beyond", x.digs(0, 2), LastOchre.BAD);
        for (int n : WRONG) {
            due("digs x " + n, x.digs(n, 0), LastOchre.BAD);
            due("digs y " + n, x.digs(0, n), LastOchre.BAD);
        }
        LastOchre upward = told("s3 3 111 111 119;");
        upward.digs(0, 0);
        upward.digs(0, 1);
        upward.digs(0, 2);
        due("no wrap to the row above", upward.digs(2, 1), LastOchre.STATE);
        upward.digs(1, 2);
        upward.digs(2, 2);
        due("from below upward", upward.digs(2, 1), 14);
    }

    // 8
    private static void scraping() {
        LastOchre x = told(SMALL);
        due("20 less 6", x.scrapes(0), 14);
        due("9 less 2, what is lost is cut", x.scrapes(1), 7);
        due("store", x.now(1), 21);
        due("yellow gone", x.thing(0, 0), 0);
        due("white gone", x.thing(0, 1), 0);
        due("fades stay", x.thing(0, 2), 2);
        due("twice", x.scrapes(0), LastOchre.STATE);
        due("beyond", x.scrapes(4), LastOchre.BAD);
        due("below", x.scrapes(-1), LastOchre.BAD);
        due("may be undone", x.count(6), 2);
        for (int n : WRONG) {
            due("scrapes " + n, x.scrapes(n), LastOchre.BAD);
        }
        due("loss 0", told("t7 3 0 0;l0;").scrapes(0), 7);
        LastOchre all = told("t7 3 0 0;l10;");
        due("loss 10", all.scrapes(0), 0);
        due("loss 10, yellow", all.thing(0, 0), 0);
        due("loss 10, may be undone", all.count(6), 1);
        LastOchre white = told("t0 3 0 0;");
        due("only white", white.scrapes(0), LastOchre.STATE);
        due("white stays", white.thing(0, 1), 3);
    }

    // 9
    private static void painting() {
        LastOchre x = told("s1 1 9;t20 10 2 7;t0 4 0 0;l0;");
        due("empty store", x.paints(0, 1), LastOchre.STATE);
        x.digs(0, 0);
        due("too much", x.paints(0, 10), LastOchre.STATE);
        due("nothing changed", x.now(1), 9);
        due("paints", x.paints(1, 4), 4);
        due("store less", x.now(1), 5);
        due("called now", x.thing(1, 4), 1);
        due("all of it", x.paints(0, 5), 25);
        due("store empty", x.now(1), 0);
        due("n 0", x.paints(0, 0), LastOchre.BAD);
        due("n 100", x.paints(0, 100), LastOchre.BAD);
        due("n -1", x.paints(0, -1), LastOchre.BAD);
        due("no thing", x.paints(2, 1), LastOchre.BAD);
        due("no thing", x.paints(-1, 1), LastOchre.BAD);
        for (int n : WRONG) {
            due("paints thing " + n, x.paints(n, 1), LastOchre.BAD);
            due("paints n " + n, x.paints(0, n), LastOchre.BAD);
        }
    }

    // 10
    private static void stretching() {
        LastOchre x = told("t20 9 2 7;");
        due("stretches", x.stretches(0, 1), 10);
        due("yellow stays", x.thing(0, 0), 20);
        due("to the bound", x.stretches(0, 10), 20);
        due("called", x.thing(0, 4), 1);
        due("beyond the bound", x.stretches(0, 1), 21);
        due("called no more", x.thing(0, 4), 0);
        for (int i = 1; i <= 9; i++) {
            x.stretches(0, 99);
        }
        due("white", x.thing(0, 1), 912);
        due("full", x.stretches(0, 88), LastOchre.FULL);
        due("just 999", x.stretches(0, 87), 999);
        due("full at 999", x.stretches(0, 1), LastOchre.FULL);
        due("bad ahead of full", x.stretches(0, 100), LastOchre.BAD);
        due("n 0", x.stretches(0, 0), LastOchre.BAD);
        due("no thing", x.stretches(1, 1), LastOchre.BAD);
        for (int n : WRONG) {
            due("stretches thing " + n, x.stretches(n, 1), LastOchre.BAD);
            due("stretches n " + n, x.stretches(0, n), LastOchre.BAD);
        }
    }

    // 11
    private static void yearsGoBy() {
        LastOchre x = told(SMALL);
        due("a year", x.years(1), 2);
        due("year", x.now(0), 1);
        due("yellow", x.thing(0, 0), 18);
        due("white stays", x.thing(0, 1), 10);
        due("five more", x.years(5), 0);
        due("never below 0", x.thing(3, 0), 0);
        due("yellow that does not fade", x.thing(2, 0), 5);
        due("undone at once", x.undo(), 1);
        due("year again", x.now(0), 1);
        due("yellow again", x.thing(3, 0), 25);
        due("n 0", x.years(0), LastOchre.BAD);
        due("n 100", x.years(100), LastOchre.BAD);
        for (int i = 0; i < 10; i++) {
            x.years(99);
        }
        due("991", x.now(0), 991);
        due("year 1000", x.years(9), LastOchre.STATE);
        due("not changed", x.now(0), 991);
        due("year 999", x.years(8), 0);
        due("bad ahead of state", x.years(100), LastOchre.BAD);
        due("no more", x.years(1), LastOchre.STATE);
        for (int n : WRONG) {
            due("years " + n, x.years(n), LastOchre.BAD);
        }
    }

    // 12
    private static void undoing() {
        LastOchre x = told("s1 1 9;t20 10 2 7;l0;");
        x.digs(0, 0);
        x.paints(0, 3);
        x.stretches(0, 5);
        x.years(2);
        x.scrapes(0);
        due("undo a scrape", x.undo(), 4);
        due("yellow", x.thing(0, 0), 19);
        due("white", x.thing(0, 1), 15);
        due("store", x.now(1), 6);
        due("undo years", x.undo(), 3);
        due("yellow", x.thing(0, 0), 23);
        due("year", x.now(0), 0);
        due("undo a stretch", x.undo(), 2);
        due("white", x.thing(0, 1), 10);
        due("undo a painting", x.undo(), 1);
        due("yellow", x.thing(0, 0), 20);
        due("store", x.now(1), 9);
        due("undo a dig", x.undo(), 0);
        due("store", x.now(1), 0);
        due("dug", x.now(2), 0);
        due("none", x.undo(), LastOchre.STATE);
        for (int i = 1; i <= 12; i++) {
            x.years(1);
            due("known", x.count(6), Math.min(i, 10));
        }
        x.came(3);
        for (int i = 9; i >= 0; i--) {
            due("undo", x.undo(), i);
        }
        due("older ones are lost", x.undo(), LastOchre.STATE);
        due("year 2 stays", x.now(0), 2);
        due("what came stays", x.count(5), 1);
    }

    // 13
    private static void nowTells() {
        LastOchre x = told(SMALL);
        x.digs(1, 0);
        x.digs(1, 1);
        x.years(1);
        int[] nows = {1, 6, 18, 9, 16, 18 + 8 + 5 + 25, 13};
        for (int i = 0; i < nows.length; i++) {
            due("now(" + i + ")", x.now(i), nows[i]);
        }
        LastOchre six = told("t1 0 9 1;t1 0 9 2;t1 2 9 3;t1 0 9 4;t1 0 9 5;t1 1 9 6;");
        due("called, not next year", six.now(3), 59);
        due("their worth", six.now(4), 18);
        due("yellow of six", six.now(5), 6);
        due("a year of six", six.years(1), 0);
        due("yellow of none", six.now(5), 0);
        due("now(-1)", x.now(-1), LastOchre.BAD);
        due("now(7)", x.now(7), LastOchre.BAD);
        for (int n : WRONG) {
            due("now " + n, x.now(n), LastOchre.BAD);
        }
    }

    // 14
    private static void lasting() {
        LastOchre x = told("t20 10 2 7;t9 9 1 4;t5 6 0 50;t30 0 7 9;t4 4 0 1;t0 0 0 1;");
        int[] spans = {6, 1, 0, 5, LastOchre.NONE, 0};
        for (int t = 0; t < spans.length; t++) {
            due("lasts(" + t + ")", x.lasts(t), spans[t]);
        }
        for (int t = 0; t < 4; t++) {
            LastOchre y = told("t20 10 2 7;t9 9 1 4;t5 6 0 50;t30 0 7 9;");
            for (int i = 0; i < spans[t]; i++) {
                due("called yet", y.thing(t, 4), 1);
                y.years(1);
            }
            due("called no more", y.thing(t, 4), 0);
        }
        due("lasts(-1)", x.lasts(-1), LastOchre.BAD);
        due("lasts(6)", x.lasts(6), LastOchre.BAD);
        for (int n : WRONG) {
            due("lasts " + n, x.lasts(n), LastOchre.BAD);
        }
    }

    // 15
    private static void firstToGo() {
        due("of several the least", told("t9 0 1 1;t3 0 1 1;t6 0 2 1;").first(), 1);
        due("not the one that is not called", told("t1 9 1 1;t9 0 1 1;").first(), 1);
        due("not one for ever", told("t1 0 0 1;t9 0 1 1;").first(), 1);
        due("none", told("t1 9 1 1;t9 0 0 1;").first(), LastOchre.NONE);
        due("one that goes in a year", told("t1 0 1 1;t1 0 1 1;t9 0 1 1;").first(), 0);
        due("the last of six", told("t9 0 0 1;t9 0 1 1;t9 0 1 1;t9 0 1 1;t9 0 1 1;t8 0 1 1;").first(), 5);
    }

    // 16
    private static void needing() {
        LastOchre x = told(SMALL);
        due("now, called", x.needs(0, 0), 0);
        due("now, not called", x.needs(2, 0), 1);
        due("years", x.needs(0, 6), 2);
        due("just enough yet", x.needs(0, 5), 0);
        due("99 years", x.needs(3, 99), 466);
        due("no white", x.needs(3, 6), 1);
        due("n -1", x.needs(0, -1), LastOchre.BAD);
        due("n 100", x.needs(0, 100), LastOchre.BAD);
        due("no thing", x.needs(4, 0), LastOchre.BAD);
        for (int n : WRONG) {
            due("needs thing " + n, x.needs(n, 0), LastOchre.BAD);
            due("needs n " + n, x.needs(0, n), LastOchre.BAD);
        }
        LastOchre bound = told("t0 12 9 1;t60 1 0 0;b9;");
        due("999 at most", bound.needs(0, 99), 999);
        due("above 999", told("t0 13 9 1;b9;").needs(0, 99), LastOchre.NONE);
        due("rounded up", told("t0 5 0 1;b6;").needs(0, 0), 8);
        due("bound 10 and white", told("t5 1 0 1;b10;").needs(0, 0), LastOchre.NONE);
        due("bound 10, no white", told("t5 0 1 1;b10;").needs(0, 9), 5);
    }

    // 17
    private static void keeping() {
        LastOchre x = told("t10 0 1 5;t10 0 1 5;t0 0 0 4;l0;");
        due("all", x.kept(0, 0), 3);
        due("all, worth", x.kept(0, 1), 10);
        due("all, over", x.kept(0, 2), 0);
        due("one scraped", x.kept(10, 0), 5);
        due("worth", x.kept(10, 1), 9);
        due("over", x.kept(10, 2), 8);
        due("too long", x.kept(99, 0), 4);
        due("over", x.kept(99, 2), 19);
        LastOchre store = told("s1 1 9;t0 0 0 5;t0 0 1 5;t5 0 0 0;l5;");
        due("worth nothing is not kept", store.kept(0, 0), 3);
        due("out of what is scraped", store.kept(0, 2), 1);
        store.digs(0, 0);
        due("both", store.kept(9, 0), 3);
        due("both, over", store.kept(9, 2), 9 + 3 - 1 - 10);
        due("none for NONE", told("t60 1 0 9;b10;").kept(0, 0), 0);
        due("another beside NONE", told("t60 1 0 9;t5 0 0 1;b10;").kept(0, 0), 2);
        due("another ahead of NONE", told("t5 0 0 1;t60 1 0 9;b10;").kept(0, 0), 1);
        due("all six", told("t1 0 0 1;t1 0 0 1;t1 0 0 1;t1 0 0 1;t1 0 0 1;t1 0 0 1;").kept(99, 0), 63);
        due("n -1", x.kept(-1, 0), LastOchre.BAD);
        due("n 100", x.kept(100, 0), LastOchre.BAD);
        due("what -1", x.kept(0, -1), LastOchre.BAD);
        due("what 3", x.kept(0, 3), LastOchre.BAD);
        for (int n : WRONG) {
            due("kept n " + n, x.kept(n, 0), LastOchre.BAD);
            due("kept what " + n, x.kept(0, n), LastOchre.BAD);
        }
        due("nothing is changed", x.now(5), 20);
    }

    // 18
    private static void bestDigging() {
        LastOchre x = told("s3 3 101 909 090;");
        due("none", x.bestDig(0, 0), 0);
        due("one", x.bestDig(1, 0), 1);
        due("two", x.bestDig(2, 0), 9);
        due("two, parts", x.bestDig(2, 1), 10);
        due("four", x.bestDig(4, 0), 1 + 4 + 8 + 32);
        due("four, parts", x.bestDig(4, 1), 20);
        due("five through an empty one", x.bestDig(5, 1), 28);
        due("five, the least bits", x.bestDig(5, 0), 1 + 8 + 16 + 32 + 128);
        due("six", x.bestDig(6, 1), 29);
        due("no more than needed", x.bestDig(16, 0), 1 + 4 + 8 + 16 + 32 + 128);
        x.digs(2, 0);
        x.digs(2, 1);
        due("from how it is now", x.bestDig(2, 1), 10);
        due("from how it is now, set", x.bestDig(2, 0), 9);
        due("three", x.bestDig(3, 1), 18);
        x.undo();
        due("behind an undo", x.bestDig(1, 0), 32);
        due("k -1", x.bestDig(-1, 0), LastOchre.BAD);
        due("k 17", x.bestDig(17, 0), LastOchre.BAD);
        due("what -1", x.bestDig(0, -1), LastOchre.BAD);
        due("what 2", x.bestDig(0, 2), LastOchre.BAD);
        for (int n : WRONG) {
            due("bestDig k " + n, x.bestDig(n, 0), LastOchre.BAD);
            due("bestDig what " + n, x.bestDig(0, n), LastOchre.BAD);
        }
        due("nothing is worth a prop", told("s2 1 00;").bestDig(2, 0), 0);
        due("all", told("s4 4 9999999999999999;").bestDig(16, 1), 144);
        LastOchre done = told("s1 1 9;");
        done.digs(0, 0);
        due("all is dug", done.bestDig(16, 0), 0);
    }

    // 19, 21
    private static void farAndSpare() {
        LastOchre x = told("t20 10 2 7;t9 9 1 4;t5 6 0 50;t60 0 5 9;t0 0 0 0;b4;");
        int[] far = {20, 4, 1, 90, -5};
        int[] spare = {13, 3, 1, 59, 0};
        for (int t = 0; t < far.length; t++) {
            due("far(" + t + ")", x.far(t), far[t]);
            due("spare(" + t + ")", x.spare(t), spare[t]);
        }
        LastOchre y = told("t60 60 0 1;t60 0 0 0;t5 0 0 0;b1;l0;");
        due("far by bound 1", y.far(0), 480);
        y.scrapes(1);
        y.paints(0, 60);
        due("999 at most", y.far(0), 939);
        due("not called", told("t4 5 0 1;").far(0), -5);
        due("not called, spare", told("t4 5 0 1;").spare(0), 0);
        due("called now, not next year", told("t9 3 9 1;").far(0), 6);
        due("called now, not next year, spare", told("t9 3 9 1;").spare(0), 6);
        due("bound 10, far", told("t9 0 0 1;b10;").far(0), 0);
        due("bound 10, spare", told("t9 0 0 1;b10;").spare(0), 8);
        due("far beyond", x.far(5), LastOchre.BAD);
        due("spare beyond", x.spare(5), LastOchre.BAD);
        due("far below", x.far(-1), LastOchre.BAD);
        due("spare below", x.spare(-1), LastOchre.BAD);
        for (int n : WRONG) {
            due("far " + n, x.far(n), LastOchre.BAD);
            due("spare " + n, x.spare(n), LastOchre.BAD);
        }
    }

    // 22
    private static void richest() {
        due("most", told("t5 0 1 1;t9 0 1 1;t7 0 1 1;").rich(), 1);
        due("of several the least", told("t1 0 1 1;t9 4 1 1;t9 4 1 1;").rich(), 1);
        due("above 0", told("t1 0 1 1;t4 4 1 1;t3 9 0 0;").rich(), LastOchre.NONE);
        due("one part", told("t2 0 9 1;t2 0 1 1;").rich(), 0);
        due("the last of six", told("t1 0 0 1;t1 0 0 1;t1 0 0 1;t1 0 0 1;t1 0 0 1;t2 0 0 1;").rich(), 5);
    }

    // 20
    private static void selling() {
        LastOchre x = told("t10 10 1 5;t10 9 1 5;t1 0 1 9;t0 0 0 9;t7 0 0 3;b5;l0;");
        due("at once", x.sell(1, 0, 0), 0);
        due("at once, price", x.sell(1, 0, 1), 10);
        due("a year later", x.sell(1, 1, 0), 1);
        due("a year later, price", x.sell(1, 60, 1), 20);
        due("the first of several", x.sell(4, 60, 0), 2);
        due("the price", x.sell(4, 60, 1), 15);
        due("never called", x.sell(3, 60, 0), 0);
        due("never called, price", x.sell(3, 60, 1), 0);
        due("n -1", x.sell(0, -1, 0), LastOchre.BAD);
        due("n 61", x.sell(0, 61, 0), LastOchre.BAD);
        due("what -1", x.sell(0, 0, -1), LastOchre.BAD);
        due("what 2", x.sell(0, 0, 2), LastOchre.BAD);
        due("no thing", x.sell(5, 0, 0), LastOchre.BAD);
        for (int n : WRONG) {
            due("sell thing " + n, x.sell(n, 0, 0), LastOchre.BAD);
            due("sell n " + n, x.sell(0, n, 0), LastOchre.BAD);
            due("sell what " + n, x.sell(0, 0, n), LastOchre.BAD);
        }
        due("the very last year", told("t1 0 0 9;t60 0 1 9;").sell(0, 60, 0), 60);
        due("a year too early", told("t1 0 0 9;t60 0 1 9;").sell(0, 59, 0), 0);
    }

    // 23
    private static void oddsOfThieves() {
        LastOchre x = told("t20 10 2 7;t9 9 1 4;t5 6 0 50;t60 0 0 9;");
        due("upper", x.odds(3, 2, 3, 0), 64);
        due("lower", x.odds(3, 2, 3, 1), 125);
        due("no thief", x.odds(3, 0, 8, 0), 1);
        due("no thief, lower", x.odds(3, 0, 8, 1), 1);
        due("a sure thief", x.odds(3, 10, 1, 0), 0);
        due("a sure thief, lower", x.odds(3, 10, 1, 1), 1);
        due("no years", x.odds(3, 10, 0, 0), 1);
        due("no years, lower", x.odds(3, 10, 0, 1), 1);
        due("no years, not called", x.odds(2, 0, 0, 0), 0);
        due("eight years", x.odds(3, 1, 8, 0), 43046721);
        due("eight years, lower", x.odds(3, 1, 8, 1), 100000000);
        due("called yet", x.odds(0, 5, 5, 1), 32);
        due("called no more", x.odds(0, 5, 6, 0), 0);
        due("called no more, lower", x.odds(0, 5, 6, 1), 1);
        due("x 11", x.odds(0, 11, 0, 0), LastOchre.BAD);
        due("x -1", x.odds(0, -1, 0, 0), LastOchre.BAD);
        due("n 9", x.odds(0, 0, 9, 0), LastOchre.BAD);
        due("n -1", x.odds(0, 0, -1, 0), LastOchre.BAD);
        due("what 2", x.odds(0, 0, 0, 2), LastOchre.BAD);
        due("what -1", x.odds(0, 0, 0, -1), LastOchre.BAD);
        due("no thing", x.odds(4, 0, 0, 0), LastOchre.BAD);
        for (int n : WRONG) {
            due("odds thing " + n, x.odds(n, 0, 0, 0), LastOchre.BAD);
            due("odds x " + n, x.odds(0, n, 0, 0), LastOchre.BAD);
            due("odds n " + n, x.odds(0, 0, n, 0), LastOchre.BAD);
            due("odds what " + n, x.odds(0, 0, 0, n), LastOchre.BAD);
        }
    }

    // 24, 25
    private static void whatCame() {
        LastOchre x = told(SMALL);
        due("came(-1)", x.came(-1), LastOchre.BAD);
        due("came(10)", x.came(10), LastOchre.BAD);
        for (int i = 1; i <= 5; i++) {
            due("came", x.came(i == 1 ? 0 : 9), i);
        }
        due("full", x.came(1), LastOchre.FULL);
        due("bad ahead of full", x.came(10), LastOchre.BAD);
        due("forget", x.forget(), 5);
        due("forget again", x.forget(), 0);
        due("fits behind forget", x.fits(-1), 1);
        due("came anew", x.came(9), 1);
        due("fits nothing", x.fits(-1), 0);
        due("forget what was looked for", x.forget(), 1);
        due("fits behind forget again", x.fits(-1), 1);
        for (int n : WRONG) {
            due("came " + n, x.came(n), LastOchre.BAD);
        }
    }

    // 26
    private static void fitting() {
        LastOchre x = told("s3 2 112 311;");
        x.came(1);
        due("rows of one", x.fits(-1), 2);
        due("in each", x.fits(-2), 0);
        due("first", x.fits(0), 0);
        due("no second", x.fits(1), LastOchre.NONE);
        x.came(1);
        due("rows of two", x.fits(-1), 3);
        due("in each", x.fits(-2), 2);
        due("first of the first", x.fits(0), 0);
        due("second of the first", x.fits(1), 10);
        x.came(3);
        due("rows of three", x.fits(-1), 3);
        due("in each of three", x.fits(-2), 2 + 8);
        due("third", x.fits(2), 1);
        x.digs(2, 0);
        due("more, from how it is now", x.fits(-1), 6);
        due("in each now", x.fits(-2), 8);
        x.undo();
        due("as before", x.fits(-2), 10);
        x.came(9);
        due("none", x.fits(-1), 0);
        due("none, in each", x.fits(-2), 0);
        due("none, first", x.fits(0), LastOchre.NONE);
        due("i -3", x.fits(-3), LastOchre.BAD);
        due("i 5", x.fits(5), LastOchre.BAD);
        for (int n : WRONG) {
            due("fits " + n, x.fits(n), LastOchre.BAD);
        }
        LastOchre deep = told("s1 4 5432;");
        for (int p = 5; p >= 2; p--) {
            deep.came(p);
        }
        due("deep", deep.fits(-1), 1);
        due("deep, in each", deep.fits(-2), 15);
        for (int i = 0; i < 4; i++) {
            due("deep, " + i, deep.fits(i), i);
        }
        due("deep, 4", deep.fits(4), LastOchre.NONE);
        LastOchre twice = told("s2 1 44;");
        twice.came(4);
        twice.came(4);
        twice.came(4);
        due("no cell twice", twice.fits(-1), 0);
    }

    // 27, 31
    private static void marks() {
        LastOchre x = told("t20 10 2 7;t3 60 0 4;b4;");
        x.years(5);
        int[] marks = {10, 17, 0, 34, 4, 15};
        long[] traces = {1, 11, 101, 1011, 10101, 100001};
        long sum = 0;
        for (int kind = 0; kind < marks.length; kind++) {
            due("mark(" + kind + ", 0)", x.mark(kind, 0), marks[kind]);
            sum += traces[kind];
            due("trace", x.trace(), sum);
        }
        due("below 0", x.mark(2, 1), -57);
        due("below 0, butter", x.mark(4, 1), -53);
        sum = x.trace();
        due("kind -1", x.mark(-1, 0), LastOchre.NO);
        due("kind 6", x.mark(6, 0), LastOchre.NO);
        due("no thing", x.mark(0, 2), LastOchre.NO);
        due("no thing", x.mark(0, -1), LastOchre.NO);
        for (int n : WRONG) {
            due("mark kind " + n, x.mark(n, 0), LastOchre.NO);
            due("mark thing " + n, x.mark(0, n), LastOchre.NO);
        }
        due("trace of refusals", x.trace(), sum);
        x.undo();
        due("trace is not undone", x.trace(), sum);
    }

    // 28, 29
    private static void images() {
        LastOchre x = told(SMALL);
        x.digs(0, 0);
        x.years(3);
        due("keep", x.keep(0), 3);
        x.stretches(0, 9);
        x.scrapes(1);
        x.digs(1, 0);
        x.years(4);
        x.came(1);
        x.mark(0, 0);
        due("keep the other", x.keep(1), 7);
        due("back", x.back(0), 3);
        due("year", x.now(0), 3);
        due("store", x.now(1), 1);
        due("dug", x.now(2), 1);
        due("yellow", x.thing(1, 0), 6);
        due("white", x.thing(0, 1), 10);
        due("may be undone", x.count(6), 2);
        due("what came stays", x.count(5), 1);
        due("trace stays", x.trace(), 1);
        due("undo of the image", x.undo(), 1);
        due("year", x.now(0), 0);
        due("back once more", x.back(0), 3);
        due("back to the other", x.back(1), 7);
        due("may be undone", x.count(6), 6);
        due("undo", x.undo(), 5);
        due("year", x.now(0), 3);
        due("kept anew", x.keep(1), 3);
        x.years(9);
        due("back to the new one", x.back(1), 3);
        allThatMayBeUndoneIsKept();
        due("keep(-1)", x.keep(-1), LastOchre.BAD);
        due("keep(2)", x.keep(2), LastOchre.BAD);
        due("back(-1)", x.back(-1), LastOchre.BAD);
        due("back(2)", x.back(2), LastOchre.BAD);
        for (int n : WRONG) {
            due("keep " + n, x.keep(n), LastOchre.BAD);
            due("back " + n, x.back(n), LastOchre.BAD);
        }
        LastOchre none = told(SMALL);
        none.keep(1);
        due("none was kept", none.back(0), LastOchre.STATE);
    }

    private static void allThatMayBeUndoneIsKept() {
        LastOchre x = told("t60 0 1 1;");
        for (int i = 0; i < 12; i++) {
            x.years(1);
        }
        x.keep(1);
        for (int i = 0; i < 12; i++) {
            x.stretches(0, 1);
        }
        due("back to ten deeds", x.back(1), 12);
        for (int i = 9; i >= 0; i--) {
            due("undo", x.undo(), i);
            due("year", x.now(0), 2 + i);
            due("yellow", x.thing(0, 0), 58 - i);
            due("white", x.thing(0, 1), 0);
        }
        due("back once more", x.back(1), 12);
        due("ten deeds yet", x.count(6), 10);
    }

    // 30
    private static void counts() {
        LastOchre x = told("s3 2 123 940;t20 10 2 7;b6;l4;");
        x.came(1);
        x.came(2);
        x.years(1);
        x.type(98);
        x.type(98);
        x.type(98);
        int[] counts = {3, 2, 1, 6, 4, 2, 1, 3};
        for (int i = 0; i < counts.length; i++) {
            due("count(" + i + ")", x.count(i), counts[i]);
        }
        due("count(-1)", x.count(-1), LastOchre.BAD);
        due("count(8)", x.count(8), LastOchre.BAD);
        for (int n : WRONG) {
            due("count " + n, x.count(n), LastOchre.BAD);
        }
    }

    private static void constants() {
        due("BAD", LastOchre.BAD, -1);
        due("STATE", LastOchre.STATE, -2);
        due("FULL", LastOchre.FULL, -3);
        due("NONE", LastOchre.NONE, -9);
        due("NO", LastOchre.NO, -1000000);
    }
}
