/** Promises 14 to 23, and "Terms", 3: what comes, if nobody does anything but as told; nothing is changed by asking. */
public final class EdgesOfWhatComes {
    private static final String[] SCENE = Runs.steps(
        "text s3 2 123 940;t20 10 2 7;t9 9 1 4;t0 3 0 5;b6;l2;", "hill = 6", "digs 1 0 = 2", "keep 0 = 0", "years 1 = 1",
        "stretches 0 2 = 12", "keep 1 = 1", "came 4 = 1", "mark 3 0 = 50", "text b7;");
    private static final String FAR_BELOW = "-2147483648";
    private static final String FAR_ABOVE = "2147483647";

    public static void main(String[] args) {
        lasts();
        first();
        needs();
        needsAtMost999();
        kept();
        keptByWhatThereIs();
        keptOfSeveral();
        bestDig();
        bestDigAskedAgain();
        bestDigOfSeveral();
        far();
        farAtMost999();
        sell();
        sellOfSeveral();
        spare();
        rich();
        odds();
        oddsInLeastTerms();
        notStoppedByTheLastYear();
        Runs.end();
    }

    private static String[] told(String text) {
        return Runs.steps("text " + text, "hill");
    }

    /** The numbers ahead of the one that is not as told, and those behind it, are as they may be. */
    private static void bad(String sentence, String ahead, int least, int most, String behind) {
        Runs.nothingChanges(sentence, SCENE, ahead + " " + (least - 1) + " " + behind + " = BAD", ahead + " " + (most + 1) + " " + behind + " = BAD",
            ahead + " " + FAR_BELOW + " " + behind + " = BAD", ahead + " " + FAR_ABOVE + " " + behind + " = BAD");
    }

    private static void lasts() {
        bad("14: there is no such THING: BAD", "lasts", 0, 2, "");
        Runs.run("14: no THINGS yet: BAD", "lasts 0 = BAD", "lasts -1 = BAD");
        Runs.nothingChanges("14: nothing is changed", SCENE, "lasts 0 = 1", "lasts 1 = 0", "lasts 2 = 0");
        Runs.run("14: 0: it is not CALLED", told("t0 0 1 0;t0 5 1 0;t4 5 1 0;t4 5 0 0;t0 0 0 0;t60 60 9 0;b5;"), "lasts 0 = 0", "lasts 1 = 0", "lasts 2 = 0", "lasts 3 = 0", "lasts 4 = 0", "lasts 5 = 1");
        Runs.run("14: NONE: never", told("t1 0 0 0;t5 5 0 0;t60 0 0 0;"), "lasts 0 = NONE", "lasts 1 = NONE", "lasts 2 = NONE");
        Runs.run("14: just CALLED: no more in a YEAR", told("t5 5 1 0;t5 5 9 0;t1 0 1 0;t1 0 9 0;"), "lasts 0 = 1", "lasts 1 = 1", "lasts 2 = 1", "lasts 3 = 1");
        Runs.run("14: one part more: a YEAR more", told("t5 5 1 0;t6 5 1 0;t7 5 1 0;t6 5 2 0;t7 5 2 0;t8 5 2 0;"), "lasts 0 = 1", "lasts 1 = 2", "lasts 2 = 3", "lasts 3 = 1", "lasts 4 = 2", "lasts 5 = 2");
        Runs.run("14: the last part of YELLOW", told("t60 0 1 0;t9 0 9 0;t10 0 9 0;t18 0 9 0;t19 0 9 0;b10;"), "lasts 0 = 60", "lasts 1 = 1", "lasts 2 = 2", "lasts 3 = 2", "lasts 4 = 3");
        for (int fades = 1; fades <= 9; fades++) {
            String[] told = told("t60 17 " + fades + " 0;b6;");
            int years = 0;
            while (10 * (60 - years * fades) >= 6 * (60 - years * fades + 17)) {
                years++;
            }
            Runs.run("14: in how many YEARS it is CALLED no more", told, "lasts 0 = " + years, (years - 1) + "* years 1", "thing 0 4 = 1", "lasts 0 = 1", "years 1", "thing 0 4 = 0", "lasts 0 = 0");
        }
    }

    private static void first() {
        Runs.run("15: NONE: no THINGS yet", "first = NONE");
        Runs.run("15: NONE: none is CALLED", told("t0 0 1 0;t4 5 1 0;"), "first = NONE");
        Runs.run("15: NONE: they are for ever", told("t5 5 0 0;t1 0 0 0;"), "first = NONE");
        Runs.run("15: NONE: some are not CALLED, some are for ever", told("t4 5 1 0;t1 0 0 0;t0 0 9 0;"), "first = NONE");
        Runs.run("15: that are CALLED: one that is not is none of them", told("t4 5 1 0;t60 0 1 0;"), "first = 1");
        Runs.run("15: and will not be for ever", told("t1 0 0 0;t60 0 1 0;"), "first = 1");
        Runs.run("15: that LASTS least", told("t9 0 1 0;t8 0 1 0;t7 0 1 0;t8 0 1 0;"), "first = 2");
        Runs.run("15: of several the least", told("t9 0 1 0;t8 0 1 0;t8 0 1 0;t16 0 2 0;"), "first = 1");
        Runs.run("15: of several the least, all the same", told("t9 0 1 0;".repeat(6)), "first = 0");
        Runs.run("15: the last of six", told("t9 0 1 0;".repeat(5) + "t8 0 1 0;"), "first = 5");
        Runs.run("15: the only one", told("t1 0 1 0;"), "first = 0", "years 1 = 0", "first = NONE");
        Runs.nothingChanges("15: nothing is changed", SCENE, "first = 0");
    }

    private static void needs() {
        bad("16: there is no such THING: BAD", "needs", 0, 2, "0");
        bad("16: n (0 .. 99): BAD", "needs 0", 0, 99, "");
        Runs.run("16: no THINGS yet: BAD", "needs 0 0 = BAD", "needs 0 99 = BAD");
        Runs.nothingChanges("16: nothing is changed", SCENE, "needs 0 0 = 0", "needs 0 99 = 198", "needs 2 0 = 5");
        Runs.run("16: n (0 .. 99)", told("t5 5 1 0;t5 5 9 0;t0 0 0 0;"), "needs 0 0 = 0", "needs 0 1 = 1", "needs 0 98 = 98", "needs 0 99 = 99", "needs 1 99 = 891", "needs 2 0 = 1", "needs 2 99 = 1");
        Runs.run("16: none: it is CALLED then by itself", told("t6 5 1 0;t60 0 0 0;t60 0 1 0;"), "needs 0 1 = 0", "needs 0 2 = 1", "needs 1 99 = 0", "needs 2 59 = 0", "needs 2 60 = 1");
        Runs.run("16: the fewest: some YELLOW at least", told("t0 0 0 0;t0 0 5 0;b1;"), "needs 0 0 = 1", "needs 1 0 = 1", "needs 1 1 = 6");
        Runs.run("16: the fewest, a part of a part is a part", told("t0 5 0 0;t0 4 0 0;t0 6 0 0;b6;"), "needs 0 0 = 8", "needs 1 0 = 6", "needs 2 0 = 9");
        Runs.run("16: BOUND 10: NONE by WHITE", told("t60 1 0 0;t0 1 0 0;t60 0 0 0;t0 0 9 0;b10;"), "needs 0 0 = NONE", "needs 1 99 = NONE", "needs 2 99 = 0", "needs 3 99 = 892");
        Runs.run("16: not what FADES before there is any", told("t0 5 9 0;"), "needs 0 1 = 14", "needs 0 2 = 23");
    }

    private static void needsAtMost999() {
        String[] white999 = Runs.steps(told("t0 9 0 0;t60 9 0 0;t0 9 1 0;b5;"), "10* stretches 0 99", "10* stretches 1 99", "10* stretches 2 99");
        Runs.run("16: its YELLOW 999 at most", white999, "needs 0 0 = 999", "needs 0 99 = 999", "needs 1 0 = 939", "needs 2 0 = 999", "needs 2 1 = NONE", "needs 2 99 = NONE");
        Runs.run("16: its YELLOW 999 at most, a part below", told("t0 8 1 0;b5;"), "10* stretches 0 99", "needs 0 0 = 998", "needs 0 1 = 999", "needs 0 2 = NONE");
        Runs.run("16: its YELLOW 999 at most, of what it has, too", told("t60 60 9 0;b6;"), "needs 0 99 = 921", "4* stretches 0 3", "needs 0 99 = 939", "stretches 0 1 = 73", "needs 0 99 = NONE");
        Runs.run("16: its YELLOW 999 at most, BOUND 9", told("t0 12 9 0;t0 13 9 0;b9;"), "needs 0 99 = 999", "needs 1 98 = 999", "needs 1 99 = NONE");
    }

    private static void kept() {
        bad("17: n (0 .. 99): BAD", "kept", 0, 99, "0");
        bad("17: what 0 .. 2: BAD", "kept 0", 0, 2, "");
        Runs.nothingChanges("17: nothing is changed", SCENE, "kept 0 0 = 5", "kept 0 1 = 12", "kept 0 2 = 4", "kept 99 0 = 4", "kept 99 1 = 5", "kept 99 2 = 19");
        Runs.run("17: no THINGS yet", "kept 0 0 = 0", "kept 0 1 = 0", "kept 0 2 = 0", "kept 99 0 = 0", "kept 100 0 = BAD", "kept -1 0 = BAD", "kept 0 3 = BAD");
        Runs.run("17: no THINGS, THE STORE is over", told("s1 1 9;"), "digs 0 0 = 9", "kept 5 0 = 0", "kept 5 1 = 0", "kept 5 2 = 9");
        Runs.run("17: all six, the most WORTH", told("t1 0 0 99;".repeat(6)), "kept 0 0 = 63", "kept 99 0 = 63", "kept 99 1 = 594", "kept 99 2 = 0");
        Runs.run("17: none can be: by none it is CALLED", told("t60 1 0 9;t5 0 0 1;b10;l0;"), "kept 0 0 = 2", "kept 0 1 = 1", "kept 0 2 = 60");
        Runs.run("17: none can be, the last one", told("t5 0 0 1;t60 1 0 9;b10;l0;"), "kept 0 0 = 1", "kept 0 1 = 1", "kept 0 2 = 60");
        Runs.run("17: none can be at all: all others are SCRAPED", told("t60 1 0 9;t10 1 0 9;b10;l5;"), "kept 0 0 = 0", "kept 0 1 = 0", "kept 0 2 = 35");
        Runs.run("17: n YEARS from now, not one more", told("t10 0 1 5;b10;"), "kept 9 0 = 1", "kept 9 2 = 0", "kept 10 0 = 0", "kept 10 2 = 7");
    }

    private static void keptByWhatThereIs() {
        Runs.run("17: there is just enough in THE STORE", told("s2 1 54;t0 5 0 9;"), "digs 0 0 = 5", "kept 0 0 = 1", "kept 0 1 = 9", "kept 0 2 = 0");
        Runs.run("17: there is one part too little in THE STORE", told("s2 1 54;t0 5 0 9;"), "digs 1 0 = 4", "kept 0 0 = 0", "kept 0 1 = 0", "kept 0 2 = 4");
        Runs.run("17: there is just enough from what is SCRAPED", told("t0 7 0 9;t10 0 0 1;"), "kept 0 0 = 1", "kept 0 1 = 9", "kept 0 2 = 0");
        Runs.run("17: there is one part too little from what is SCRAPED", told("t0 8 0 9;t10 0 0 1;"), "kept 0 0 = 2", "kept 0 1 = 1", "kept 0 2 = 0");
        Runs.run("17: from both", told("s1 1 1;t0 8 0 9;t10 0 0 1;"), "digs 0 0 = 1", "kept 0 0 = 1", "kept 0 2 = 0");
        Runs.run("17: what is lost is cut of each THING by itself", told("t1 0 0 0;t1 0 0 0;t1 0 0 0;t0 3 0 9;l9;"), "kept 0 0 = 8", "kept 0 2 = 0");
        Runs.run("17: LOSS 10: nothing comes from others", told("t60 0 0 1;t0 1 0 9;l10;"), "kept 0 0 = 1", "kept 0 1 = 1", "kept 0 2 = 0");
        Runs.run("17: LOSS 0: all comes from others", told("t60 0 0 1;t0 60 0 9;l0;"), "kept 0 0 = 2", "kept 0 1 = 9", "kept 0 2 = 0");
        Runs.run("17: one that is kept is not SCRAPED, though it has more than it NEEDS", told("t60 0 0 9;t0 1 0 1;"), "kept 0 0 = 1", "kept 0 1 = 9", "kept 0 2 = 0");
        Runs.run("17: the YELLOW that it has counts for what it NEEDS", told("s1 1 2;t3 5 0 9;"), "digs 0 0 = 2", "kept 0 0 = 1", "kept 0 2 = 0");
    }

    private static void keptOfSeveral() {
        Runs.run("17: of several the least bits: none is WORTH anything", told("t5 0 0 0;t5 0 0 0;l0;"), "kept 0 0 = 0", "kept 0 1 = 0", "kept 0 2 = 10");
        Runs.run("17: of several the least bits: one WORTH nothing is not in it", told("t5 0 0 0;t5 0 0 3;l0;"), "kept 0 0 = 2", "kept 0 1 = 3", "kept 0 2 = 5");
        Runs.run("17: of several the least bits: this or that", told("t0 10 0 5;t0 10 0 5;t10 0 0 0;l0;"), "kept 0 0 = 1", "kept 0 1 = 5", "kept 0 2 = 0");
        Runs.run("17: of several the least bits: two for one", told("t0 5 0 2;t0 5 0 3;t0 10 0 5;t10 0 0 0;l0;"), "kept 0 0 = 3", "kept 0 1 = 5", "kept 0 2 = 0");
        Runs.run("17: of several the least bits: one for two", told("t0 10 0 5;t0 5 0 2;t0 5 0 3;t10 0 0 0;l0;"), "kept 0 0 = 1", "kept 0 1 = 5", "kept 0 2 = 0");
        Runs.run("17: the most WORTH ahead of the least bits", told("t0 10 0 5;t0 10 0 6;t10 0 0 0;l0;"), "kept 0 0 = 2", "kept 0 1 = 6");
        Runs.run("17: the least bits, whatever is over", told("t0 9 0 5;t0 2 0 5;t10 0 0 0;l0;"), "kept 0 0 = 1", "kept 0 2 = 1");
    }

    private static void bestDig() {
        bad("18: k (0 .. 16): BAD", "bestDig", 0, 16, "0");
        bad("18: what 0 .. 1: BAD", "bestDig 1", 0, 1, "");
        Runs.nothingChanges("18: nothing is changed", SCENE, "bestDig 0 0 = 0", "bestDig 0 1 = 0", "bestDig 1 0 = 16", "bestDig 1 1 = 4", "bestDig 2 0 = 24", "bestDig 2 1 = 13", "bestDig 16 0 = 29", "bestDig 16 1 = 17");
        Runs.run("18: no CELLS yet", "bestDig 0 0 = 0", "bestDig 16 0 = 0", "bestDig 16 1 = 0", "bestDig 17 0 = BAD", "bestDig -1 0 = BAD", "bestDig 0 2 = BAD");
        Runs.run("18: all are DUG", told("s2 1 34;"), "digs 0 0 = 3", "digs 1 0 = 7", "bestDig 0 0 = 0", "bestDig 16 0 = 0", "bestDig 16 1 = 0");
        Runs.run("18: as many CELLS and PARTS as there may be", told("s4 4 9999999999999999;"), "bestDig 16 0 = 65535", "bestDig 16 1 = 144", "bestDig 15 0 = 32767", "bestDig 15 1 = 135",
            "bestDig 1 0 = 1", "bestDig 1 1 = 9", "bestDig 0 0 = 0", "bestDig 0 1 = 0");
        Runs.run("18: more PROPS than CELLS", told("s1 1 5;"), "bestDig 1 0 = 1", "bestDig 2 0 = 1", "bestDig 16 0 = 1", "bestDig 16 1 = 5", "bestDig 0 0 = 0", "bestDig 0 1 = 0");
        Runs.run("18: k at most: one PROP too few for the deep one", told("s1 4 0009;"), "bestDig 3 0 = 0", "bestDig 3 1 = 0", "bestDig 4 0 = 15", "bestDig 4 1 = 9");
        Runs.run("18: CELLS not DUG yet", told("s2 1 95;"), "digs 0 0 = 9", "bestDig 1 0 = 2", "bestDig 1 1 = 5", "bestDig 2 0 = 2", "undo = 0", "bestDig 1 0 = 1", "bestDig 2 0 = 3");
        Runs.run("18: from those that were DUG on", told("s1 4 0009;"), "digs 0 0 = 0", "bestDig 2 0 = 0", "bestDig 3 0 = 14", "digs 0 1 = 0", "bestDig 2 0 = 12", "digs 0 2 = 0", "bestDig 1 0 = 8", "bestDig 1 1 = 9");
        Runs.run("18: not aslant", told("s2 2 10 09;"), "bestDig 2 0 = 10", "bestDig 2 1 = 9", "bestDig 3 0 = 11", "bestDig 3 1 = 10");
        Runs.run("18: not from a row's end to the next row", told("s2 2 01 90;"), "bestDig 2 0 = 5", "bestDig 2 1 = 9", "bestDig 3 0 = 7", "bestDig 1 0 = 2");
        Runs.run("18: not from a row's end to the next row, four wide", told("s4 2 0001 9000;"), "bestDig 2 0 = 17", "bestDig 2 1 = 9", "bestDig 3 0 = 25", "bestDig 3 1 = 10");
        Runs.run("18: not from a row's begin to the one above, four wide", told("s4 3 0000 0009 1000;"), "bestDig 2 0 = 136", "bestDig 3 1 = 9", "digs 0 0 = 0", "digs 0 1 = 0", "digs 0 2 = 1", "bestDig 1 0 = 0", "bestDig 2 0 = 136");
        Runs.run("18: upward, too", told("s3 3 000 900 990;"), "bestDig 3 1 = 18", "bestDig 3 0 = 73", "digs 2 0 = 0", "digs 2 1 = 0", "digs 2 2 = 0", "bestDig 1 0 = 128", "bestDig 2 0 = 192", "bestDig 3 0 = 200", "bestDig 3 1 = 27");
    }

    private static void bestDigAskedAgain() {
        String[] nines = told("s4 4 9999999999999999;");
        Runs.run("18: asked again when a CELL is DUG, and when it is UNDONE", nines, "bestDig 16 1 = 144", "bestDig 16 0 = 65535", "bestDig 1 0 = 1", "digs 0 0 = 9", "bestDig 16 1 = 135", "bestDig 16 0 = 65534",
            "bestDig 15 0 = 65534", "bestDig 1 0 = 2", "undo = 0", "bestDig 16 1 = 144", "bestDig 16 0 = 65535", "bestDig 0 0 = 0");
        Runs.run("18: asked again when other CELLS are told", nines, "bestDig 16 1 = 144", told("s4 4 0000000000000001;"), "bestDig 16 1 = 1", "bestDig 16 0 = 34952", "bestDig 3 0 = 0", told("s1 1 0;"), "bestDig 16 1 = 0", "bestDig 16 0 = 0");
        Runs.run("18: asked again behind an IMAGE", nines, "keep 0 = 0", "bestDig 16 1 = 144", "digs 3 0 = 9", "bestDig 16 1 = 135", "back 0 = 0", "bestDig 16 1 = 144", "bestDig 16 0 = 65535");
    }

    private static void bestDigOfSeveral() {
        Runs.run("18: the one of fewest CELLS: none, where nothing comes out", told("s4 4 0000000000000000;"), "bestDig 16 0 = 0", "bestDig 16 1 = 0");
        Runs.run("18: the one of fewest CELLS: none of PARTS 0", told("s3 1 050;"), "bestDig 3 0 = 2", "bestDig 3 1 = 5");
        Runs.run("18: the one of fewest CELLS: one of 4 ahead of 2 and 2", told("s3 1 224;"), "bestDig 2 0 = 5", "bestDig 2 1 = 6", "bestDig 1 0 = 4");
        Runs.run("18: the one of fewest CELLS, though of more bits", told("s3 2 110 002;"), "bestDig 2 0 = 3", "bestDig 2 1 = 2", "bestDig 3 0 = 37", "bestDig 3 1 = 3", "bestDig 4 0 = 39", "bestDig 4 1 = 4");
        Runs.run("18: the one of fewest CELLS, 3 of more bits ahead of 4", told("s4 2 0300 1111;"), "bestDig 4 0 = 114", "bestDig 4 1 = 6", "bestDig 5 1 = 7", "bestDig 5 0 = 242");
        Runs.run("18: then the least bits", told("s4 1 5555;"), "bestDig 1 0 = 1", "bestDig 2 0 = 3", "bestDig 3 0 = 7", "bestDig 4 0 = 15");
        Runs.run("18: then the least bits, apart", told("s4 1 5155;"), "bestDig 2 0 = 5", "bestDig 3 0 = 13");
        Runs.run("18: then the least bits, of those that are left", told("s4 1 5555;"), "digs 0 0 = 5", "bestDig 1 0 = 2", "bestDig 2 0 = 6", "digs 2 0 = 10", "bestDig 1 0 = 2", "bestDig 2 0 = 10");
        Runs.run("18: a way through the lesser of two", told("s2 3 00 00 90;"), "bestDig 3 0 = 21", "bestDig 3 1 = 9");
    }

    private static void far() {
        bad("19: there is no such THING: BAD", "far", 0, 2, "");
        Runs.run("19: no THINGS yet: BAD", "far 0 = BAD");
        Runs.nothingChanges("19: nothing is changed", SCENE, "far 0 = 0", "far 1 = -5", "far 2 = -5");
        Runs.run("19: -5: it is not CALLED", told("t0 0 0 0;t0 1 0 0;t4 5 0 0;t1 2 0 0;"), "far 0 = -5", "far 1 = -5", "far 2 = -5", "far 3 = -5");
        Runs.run("19: -5: it is not CALLED, though it FADES and was", told("t4 5 9 0;t5 5 1 0;t0 0 9 0;"), "far 0 = -5", "far 2 = -5", "years 1 = 0", "far 1 = -5", "far 0 = -5");
        Runs.run("19: CALLED now, whatever it is in a YEAR", told("t9 3 9 0;t5 5 9 0;"), "far 0 = 6", "far 1 = 0");
        Runs.run("19: none more: it is just CALLED", told("t5 5 0 0;t1 1 0 0;"), "far 0 = 0", "far 1 = 0", "stretches 0 1 = 6", "far 0 = -5");
        Runs.run("19: BOUND 10: none", told("t60 0 0 0;t1 0 0 0;t1 1 0 0;b10;"), "far 0 = 0", "far 1 = 0", "far 2 = -5");
        for (int bound = 1; bound <= 10; bound++) {
            for (int yellow : new int[] {1, 7, 11}) {
                int most = 0;
                while (10 * yellow >= bound * (yellow + most + 1)) {
                    most++;
                }
                int steps = most / 99;
                Runs.run("19: how much more WHITE, so that it is CALLED yet", told("t" + yellow + " 0 0 0;b" + bound + ";"), "far 0 = " + most,
                    steps + "* stretches 0 99", (most - 99 * steps) + "* stretches 0 1", "thing 0 4 = 1", "far 0 = 0", "stretches 0 1", "thing 0 4 = 0", "far 0 = -5");
            }
        }
    }

    private static void farAtMost999() {
        String[] yellow110 = Runs.steps(told("t60 0 0 0;t60 0 0 0;b1;l0;"), "scrapes 1 = 60", "paints 0 50 = 110");
        Runs.run("19: its WHITE 999 at most", yellow110, "far 0 = 990", "paints 0 1 = 111", "far 0 = 999", "paints 0 1 = 112", "far 0 = 999", "paints 0 8 = 120", "far 0 = 999");
        Runs.run("19: its WHITE 999 at most, with what it has", yellow110, "paints 0 10 = 120", "stretches 0 99 = 99", "far 0 = 900", "9* stretches 0 99", "far 0 = 9", "stretches 0 9 = 999", "far 0 = 0", "stretches 0 1 = FULL");
    }

    private static void sell() {
        bad("20: there is no such THING: BAD", "sell", 0, 2, "0 0");
        bad("20: n (0 .. 60): BAD", "sell 0", 0, 60, "0");
        bad("20: what 0 .. 1: BAD", "sell 0 0", 0, 1, "");
        Runs.run("20: no THINGS yet: BAD", "sell 0 0 0 = BAD", "sell 0 0 1 = BAD");
        Runs.nothingChanges("20: nothing is changed", SCENE, "sell 0 0 0 = 0", "sell 0 60 0 = 0", "sell 0 60 1 = 21", "sell 2 60 1 = 0");
        String[] sixty = told("t1 0 0 9;t60 0 1 9;");
        Runs.run("20: within n (0 .. 60) YEARS: the last one", sixty, "sell 0 60 0 = 60", "sell 0 60 1 = 18", "sell 0 59 0 = 0", "sell 0 59 1 = 9");
        Runs.run("20: within n (0 .. 60) YEARS: now", told("t1 0 0 9;t1 0 1 9;"), "sell 0 0 0 = 0", "sell 0 0 1 = 9", "sell 0 1 0 = 1", "sell 0 1 1 = 18");
        Runs.run("20: 0, if it is not CALLED", told("t4 5 0 9;t0 0 0 9;t60 60 9 9;"), "sell 0 60 0 = 0", "sell 0 60 1 = 0", "sell 1 60 1 = 0", "sell 2 0 1 = 27", "sell 2 60 0 = 0");
        Runs.run("20: 0, if it is not CALLED any more", told("t4 5 1 9;t5 5 1 9;"), "sell 0 0 1 = 0", "sell 0 60 1 = 0", "sell 1 60 1 = 18", "years 1 = 0", "sell 1 0 1 = 0", "sell 1 60 1 = 0", "sell 1 60 0 = 0");
        Runs.run("20: how many are not CALLED now, whatever they were", told("t9 0 0 9;t4 5 1 9;t5 5 1 9;"), "sell 0 0 1 = 18", "sell 0 1 1 = 27", "years 1 = 1", "sell 0 0 1 = 27", "sell 0 60 0 = 0");
        Runs.run("20: WORTH 0", told("t9 0 0 0;t9 0 1 0;"), "sell 0 60 0 = 0", "sell 0 60 1 = 0");
        Runs.run("20: the dearest: WORTH 99, five that are not CALLED", told("t1 0 0 99;" + "t0 0 0 0;".repeat(5)), "sell 0 0 1 = 594", "sell 0 60 1 = 594", "sell 0 60 0 = 0");
        Runs.run("20: times 1, all are CALLED", told("t1 0 0 99;t1 0 0 1;"), "sell 0 60 1 = 99", "sell 0 60 0 = 0");
        Runs.run("20: the YEAR in which it is CALLED no more is too late", told("t3 0 1 5;t3 0 1 5;"), "sell 0 60 0 = 0", "sell 0 60 1 = 5");
        Runs.run("20: the YEAR ahead of that is not", told("t4 0 1 5;t3 0 1 5;"), "sell 0 60 0 = 3", "sell 0 60 1 = 10", "sell 0 2 0 = 0", "sell 0 3 0 = 3");
    }

    private static void sellOfSeveral() {
        Runs.run("20: of several the first", told("t60 0 0 9;t2 0 1 9;"), "sell 0 60 0 = 2", "sell 0 2 0 = 2", "sell 0 1 0 = 0");
        Runs.run("20: of several the first: all the same", told("t60 0 0 9;"), "sell 0 60 0 = 0", "sell 0 60 1 = 9");
        Runs.run("20: of several the first: higher and higher", told("t60 0 1 2;t2 0 1 9;t5 0 1 9;t9 0 1 9;"), "sell 0 60 0 = 9", "sell 0 60 1 = 8", "sell 0 8 0 = 5", "sell 0 8 1 = 6", "sell 0 4 0 = 2", "sell 0 4 1 = 4", "sell 0 1 1 = 2");
        Runs.run("20: how many are not CALLED then, not now", told("t9 0 0 1;t5 5 1 1;t5 4 1 1;t5 3 1 1;"), "sell 0 0 1 = 1", "sell 0 1 1 = 2", "sell 0 2 1 = 3", "sell 0 3 1 = 4", "sell 0 60 0 = 3");
    }

    private static void spare() {
        bad("21: there is no such THING: BAD", "spare", 0, 2, "");
        Runs.run("21: no THINGS yet: BAD", "spare 0 = BAD");
        Runs.nothingChanges("21: nothing is changed", SCENE, "spare 0 = 0", "spare 1 = 0", "spare 2 = 0");
        Runs.run("21: 0, if it is not CALLED", told("t0 0 0 0;t4 5 0 0;t0 5 0 0;t59 60 0 0;"), "spare 0 = 0", "spare 1 = 0", "spare 2 = 0", "spare 3 = 0");
        Runs.run("21: 0, if it is just CALLED", told("t5 5 0 0;t1 0 0 0;t60 60 0 0;"), "spare 0 = 0", "spare 1 = 0", "spare 2 = 0");
        Runs.run("21: CALLED now, whatever it is in a YEAR", told("t9 3 9 0;t60 0 9 0;t4 5 9 0;t5 5 9 0;"), "spare 0 = 6", "spare 1 = 59", "spare 2 = 0", "spare 3 = 0", "rich = 1");
        Runs.run("21: CALLED yet: some YELLOW is left", told("t60 0 0 0;t2 0 0 0;b1;"), "spare 0 = 59", "spare 1 = 1");
        Runs.run("21: CALLED yet: BOUND 10", told("t60 0 0 0;t60 1 0 0;b10;"), "spare 0 = 59", "spare 1 = 0");
        for (int bound = 1; bound <= 9; bound++) {
            int most = 0;
            while (60 - most - 1 > 0 && 10 * (60 - most - 1) >= bound * (60 - most - 1 + 6)) {
                most++;
            }
            Runs.run("21: how much YELLOW could be taken off", told("t60 6 " + 1 + " 0;b" + bound + ";"), "spare 0 = " + most, "years " + most + " = 1", "spare 0 = 0", "years 1 = 0", "spare 0 = 0");
        }
    }

    private static void rich() {
        Runs.run("22: NONE: no THINGS yet", "rich = NONE");
        Runs.run("22: NONE: none could SPARE above 0", told("t5 5 0 0;t1 0 0 0;t4 5 0 0;t0 0 0 0;"), "rich = NONE");
        Runs.run("22: one part is above 0", told("t5 5 0 0;t6 5 0 0;t1 0 0 0;"), "rich = 1");
        Runs.run("22: that could SPARE most", told("t9 5 0 0;t9 3 0 0;t9 4 0 0;"), "rich = 1");
        Runs.run("22: not that of most YELLOW", told("t60 60 0 0;t9 5 0 0;t3 0 0 0;"), "rich = 1");
        Runs.run("22: of several the least", told("t1 0 0 0;t9 4 0 0;t6 1 0 0;t9 4 0 0;"), "rich = 1");
        Runs.run("22: of several the least, all the same", told("t2 0 0 0;".repeat(6)), "rich = 0");
        Runs.run("22: the last of six", told("t2 0 0 0;".repeat(5) + "t3 0 0 0;"), "rich = 5");
        Runs.nothingChanges("22: nothing is changed", SCENE, "rich = NONE");
    }

    private static void odds() {
        bad("23: there is no such THING: BAD", "odds", 0, 2, "0 0 0");
        bad("23: x 0 .. 10: BAD", "odds 0", 0, 10, "0 0");
        bad("23: n 0 .. 8: BAD", "odds 0 0", 0, 8, "0");
        bad("23: what 0 .. 1: BAD", "odds 0 0 0", 0, 1, "");
        Runs.run("23: no THINGS yet: BAD", "odds 0 0 0 0 = BAD", "odds 0 10 8 1 = BAD");
        Runs.nothingChanges("23: nothing is changed", SCENE, "odds 0 5 0 0 = 1", "odds 0 10 8 0 = 0", "odds 0 10 8 1 = 1", "odds 2 0 0 0 = 0", "odds 2 0 0 1 = 1");
        String[] ever = told("t9 0 0 0;");
        Runs.run("23: x 0: nobody has", ever, "odds 0 0 0 0 = 1", "odds 0 0 0 1 = 1", "odds 0 0 8 0 = 1", "odds 0 0 8 1 = 1");
        Runs.run("23: x 10: somebody has, but not in 0 YEARS", ever, "odds 0 10 0 0 = 1", "odds 0 10 0 1 = 1", "odds 0 10 1 0 = 0", "odds 0 10 1 1 = 1", "odds 0 10 8 0 = 0", "odds 0 10 8 1 = 1");
        Runs.run("23: n 0: whether it is CALLED", told("t5 5 9 0;t4 5 9 0;"), "odds 0 3 0 0 = 1", "odds 0 3 0 1 = 1", "odds 1 3 0 0 = 0", "odds 1 3 0 1 = 1");
        Runs.run("23: and it is CALLED behind them, not one YEAR more", told("t7 5 1 0;"), "odds 0 5 2 0 = 1", "odds 0 5 2 1 = 4", "odds 0 5 3 0 = 0", "odds 0 5 3 1 = 1");
        Runs.run("23: and it is CALLED behind all eight", told("t13 5 1 0;t12 5 1 0;"), "odds 0 9 8 0 = 1", "odds 0 9 8 1 = 100000000", "odds 1 9 8 0 = 0", "odds 1 9 8 1 = 1");
    }

    private static void oddsInLeastTerms() {
        String[] ever = told("t9 0 0 0;");
        for (int x = 0; x <= 10; x++) {
            for (int n = 0; n <= 8; n++) {
                long upper = Math.round(Math.pow(10 - x, n));
                long lower = Math.round(Math.pow(10, n));
                for (int prime : new int[] {2, 5}) {
                    while (upper > 0 && upper % prime == 0 && lower % prime == 0) {
                        upper /= prime;
                        lower /= prime;
                    }
                }
                Runs.run("23: a fraction, in least terms", ever, "odds 0 " + x + " " + n + " 0 = " + upper, "odds 0 " + x + " " + n + " 1 = " + (upper == 0 ? 1 : lower));
            }
        }
        Runs.run("23: the greatest numbers", ever, "odds 0 1 8 0 = 43046721", "odds 0 1 8 1 = 100000000", "odds 0 9 8 0 = 1", "odds 0 9 8 1 = 100000000");
    }

    /** The document bounds the YEAR, not what is asked of the YEARS from now: so the words are taken here. */
    private static void notStoppedByTheLastYear() {
        Runs.run("3: from NOW on, in YEAR 999, too", told("t9 0 0 9;t60 0 0 0;t0 0 1 5;l0;"), "scrapes 1 = 60", "10* years 99", "years 9", "paints 2 30 = 30",
            "lasts 2 = 30", "first = 2", "needs 2 40 = 11", "sell 0 60 0 = 30", "sell 0 60 1 = 27", "odds 2 5 8 1 = 256", "kept 30 0 = 5", "kept 61 0 = 1", "now 0 = 999");
    }
}
