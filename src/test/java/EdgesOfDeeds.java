/** Promises 5 to 13, and "Terms", 2: CELLS and THINGS as they are, what is DUG, SCRAPED, PAINTED, STRETCHED, a YEAR, UNDONE. */
public final class EdgesOfDeeds {
    private static final String[] SCENE = Runs.steps(
        "text s3 2 123 940;t20 10 2 7;t9 9 1 4;t0 3 0 5;b6;l2;", "hill = 6", "digs 1 0 = 2", "keep 0 = 0", "years 1 = 1",
        "stretches 0 2 = 12", "keep 1 = 1", "came 4 = 1", "mark 3 0 = 50", "text b7;");
    private static final String[] SIX_THINGS_AND_ALL_NINES = Runs.steps(
        "text s4 4 9999999999999999;" + "t60 0 0 99;".repeat(6) + "l0;", "hill = 8");
    private static final String FAR_BELOW = "-2147483648";
    private static final String FAR_ABOVE = "2147483647";

    public static void main(String[] args) {
        cellsThereAre();
        cellsThatCanBeDug();
        thingsThereAre();
        called();
        dug();
        allDug();
        scraped();
        scrapedByLoss();
        painted();
        allYellowOnOne();
        stretched();
        years();
        lastYear();
        undone();
        tenAreKnown();
        whatIsNotUndone();
        now();
        Runs.end();
    }

    private static String[] allCellsDug() {
        String[] digs = new String[16];
        for (int c = 0; c < 16; c++) {
            digs[c] = "digs " + c % 4 + " " + c / 4 + " = " + 9 * (c + 1);
        }
        return digs;
    }

    private static void cellsThereAre() {
        Runs.run("5: X 0 .. W less 1, Y 0 .. H less 1", "text s3 2 123 940;", "hill = 1", "cell 0 0 0 = 1", "cell 2 0 0 = 3", "cell 0 1 0 = 9", "cell 2 1 0 = 0");
        Runs.nothingChanges("5: there is no such CELL: BAD", SCENE, "cell -1 0 0 = BAD", "cell 3 0 0 = BAD", "cell 0 -1 0 = BAD", "cell 0 2 0 = BAD", "cell 3 1 0 = BAD", "cell 2 2 0 = BAD",
            "cell " + FAR_BELOW + " 0 0 = BAD", "cell " + FAR_ABOVE + " 0 0 = BAD", "cell 0 " + FAR_BELOW + " 0 = BAD", "cell 0 " + FAR_ABOVE + " 0 = BAD", "cell -1 1 0 = BAD", "cell 3 -1 0 = BAD");
        Runs.run("5: what 0 .. 2", SCENE, "cell 1 0 0 = 2", "cell 1 0 1 = 1", "cell 1 0 2 = 0", "cell 1 1 2 = 1");
        Runs.nothingChanges("5: what 0 .. 2: BAD", SCENE, "cell 0 0 -1 = BAD", "cell 0 0 3 = BAD", "cell 0 0 " + FAR_BELOW + " = BAD", "cell 0 0 " + FAR_ABOVE + " = BAD");
        Runs.run("5: no CELLS yet: BAD", "cell 0 0 0 = BAD", "cell 0 0 1 = BAD", "cell 0 0 2 = BAD", "cell -1 -1 0 = BAD", "text t1 1 1 1;", "hill = 1", "cell 0 0 0 = BAD");
        Runs.run("5: one CELL", "text s1 1 7;", "hill = 1", "cell 0 0 0 = 7", "cell 0 0 1 = 0", "cell 0 0 2 = 1", "cell 1 0 0 = BAD", "cell 0 1 0 = BAD");
        Runs.run("5: four by one", "text s4 1 1234;", "hill = 1", "cell 3 0 0 = 4", "cell 3 0 2 = 1", "cell 4 0 0 = BAD", "cell 0 1 0 = BAD");
        Runs.run("5: one by four", "text s1 4 1234;", "hill = 1", "cell 0 3 0 = 4", "cell 0 3 2 = 0", "cell 0 4 0 = BAD", "cell 1 0 0 = BAD");
        Runs.run("5: four by four", "text s4 4 1234 5678 9012 3456;", "hill = 1", "cell 3 3 0 = 6", "cell 0 3 0 = 3", "cell 3 0 0 = 4", "cell 4 3 0 = BAD", "cell 3 4 0 = BAD");
        Runs.run("5: PARTS stay told when DUG", "text s1 1 7;", "hill = 1", "digs 0 0 = 7", "cell 0 0 0 = 7", "cell 0 0 1 = 1", "cell 0 0 2 = 0");
        Runs.nothingChanges("5: it only tells", SCENE, "cell 0 0 0 = 1", "cell 1 0 1 = 1", "cell 0 1 2 = 0");
    }

    private static void cellsThatCanBeDug() {
        Runs.run("5: the highest row (Y 0) alone, when none was DUG", "text s4 2 1111 1111;", "hill = 1",
            "cell 0 0 2 = 1", "cell 3 0 2 = 1", "cell 0 1 2 = 0", "cell 3 1 2 = 0", "cell 1 1 2 = 0");
        Runs.run("5: below one that was, not aslant", "text s3 3 111 111 111;", "hill = 1", "digs 1 0 = 1", "cell 1 1 2 = 1", "cell 0 1 2 = 0", "cell 2 1 2 = 0", "cell 1 2 2 = 0");
        Runs.run("5: left and right of one that was, not two away", "text s4 2 1111 1111;", "hill = 1", "digs 1 0 = 1", "digs 1 1 = 2", "cell 0 1 2 = 1", "cell 2 1 2 = 1", "cell 3 1 2 = 0");
        Runs.run("5: above one that was", "text s2 4 11 11 11 11;", "hill = 1", "digs 0 0 = 1", "digs 0 1 = 2", "digs 0 2 = 3", "digs 0 3 = 4", "digs 1 3 = 5",
            "undo = 4", "cell 1 2 2 = 1", "digs 1 3 = 5", "cell 1 2 2 = 1");
        Runs.run("5: above one that was, by nothing else", "text s3 3 111 111 111;", "hill = 1", "digs 0 0 = 1", "digs 0 1 = 2", "digs 0 2 = 3", "digs 1 2 = 4", "cell 2 1 2 = 0", "digs 2 2 = 5", "cell 2 1 2 = 1");
        Runs.run("5: beside does not go on from a row's end to the next row", "text s4 3 1111 1111 1111;", "hill = 1", "digs 3 0 = 1", "cell 0 1 2 = 0", "digs 3 1 = 2", "cell 0 2 2 = 0");
        Runs.run("5: beside does not go on from a row's begin to the one above", "text s4 4 1111 1111 1111 1111;", "hill = 1",
            "digs 0 0 = 1", "digs 0 1 = 2", "digs 0 2 = 3", "cell 3 1 2 = 0", "digs 0 3 = 4", "cell 3 2 2 = 0");
        Runs.run("5: one by four", "text s1 4 1111;", "hill = 1", "cell 0 1 2 = 0", "digs 0 0 = 1", "cell 0 1 2 = 1", "cell 0 2 2 = 0", "digs 0 1 = 2", "cell 0 2 2 = 1", "cell 0 3 2 = 0");
        Runs.run("5: a CELL that was DUG can't be again, until it is UNDONE", "text s1 1 1;", "hill = 1", "digs 0 0 = 1", "cell 0 0 1 = 1", "cell 0 0 2 = 0", "undo = 0", "cell 0 0 1 = 0", "cell 0 0 2 = 1");
    }

    private static void thingsThereAre() {
        Runs.run("6: THINGS 0 ..", SCENE, "thing 0 0 = 18", "thing 2 0 = 0", "thing 2 3 = 5");
        Runs.nothingChanges("6: there is no such THING: BAD", SCENE, "thing -1 0 = BAD", "thing 3 0 = BAD", "thing 6 0 = BAD", "thing " + FAR_BELOW + " 0 = BAD", "thing " + FAR_ABOVE + " 0 = BAD");
        Runs.run("6: what 0 .. 4", SCENE, "thing 0 0 = 18", "thing 0 1 = 12", "thing 0 2 = 2", "thing 0 3 = 7", "thing 0 4 = 1");
        Runs.nothingChanges("6: what 0 .. 4: BAD", SCENE, "thing 0 -1 = BAD", "thing 0 5 = BAD", "thing 0 " + FAR_BELOW + " = BAD", "thing 0 " + FAR_ABOVE + " = BAD");
        Runs.run("6: no THINGS yet: BAD", "thing 0 0 = BAD", "thing 0 4 = BAD", "thing -1 0 = BAD", "text s1 1 1;", "hill = 1", "thing 0 0 = BAD");
        Runs.run("6: six THINGS", SIX_THINGS_AND_ALL_NINES, "thing 5 0 = 60", "thing 5 4 = 1", "thing 6 0 = BAD");
        Runs.nothingChanges("6: it only tells", SCENE, "thing 0 0 = 18", "thing 0 4 = 1", "thing 2 4 = 0");
    }

    private static void called() {
        Runs.run("2: CALLED, if it has some YELLOW", "text t0 0 0 0;t0 1 0 0;t1 0 0 0;t1 1 0 0;b1;", "hill = 5", "thing 0 4 = 0", "thing 1 4 = 0", "thing 2 4 = 1", "thing 3 4 = 1", "now 3 = 12");
        Runs.run("2: CALLED, if it has some YELLOW, whatever the BOUND", "text t0 0 0 0;t1 0 0 0;b10;", "hill = 3", "thing 0 4 = 0", "thing 1 4 = 1");
        for (int bound = 1; bound <= 10; bound++) {
            for (int yellow = 1; yellow <= 6; yellow++) {
                int most = 0;
                while (10 * yellow >= bound * (yellow + most + 1)) {
                    most++;
                }
                Runs.run("2: BOUND times all that it has or more", "text t" + yellow + " " + most + " 0 1;t" + yellow + " " + (most + 1) + " 0 1;b" + bound + ";", "hill = 3",
                    "thing 0 4 = 1", "thing 1 4 = 0", "now 3 = 1");
            }
        }
        Runs.run("2: no more CALLED by one part WHITE", "text t9 8 0 1;", "hill = 1", "stretches 0 1 = 9", "thing 0 4 = 1", "stretches 0 1 = 10", "thing 0 4 = 0");
        Runs.run("2: CALLED again by one part YELLOW", "text s1 1 1;t8 9 0 1;", "hill = 2", "thing 0 4 = 0", "digs 0 0 = 1", "paints 0 1 = 9", "thing 0 4 = 1");
    }

    private static void dug() {
        Runs.nothingChanges("7: there is no such CELL: BAD", SCENE, "digs -1 0 = BAD", "digs 3 0 = BAD", "digs 0 -1 = BAD", "digs 0 2 = BAD", "digs 3 -1 = BAD", "digs -1 1 = BAD",
            "digs " + FAR_BELOW + " 0 = BAD", "digs " + FAR_ABOVE + " 0 = BAD", "digs 0 " + FAR_BELOW + " = BAD", "digs 0 " + FAR_ABOVE + " = BAD");
        Runs.nothingChanges("7: a CELL that was not: STATE", SCENE, "digs 1 0 = STATE");
        Runs.nothingChanges("7: neither in the highest row nor beside one that was: STATE", SCENE, "digs 0 1 = STATE", "digs 2 1 = STATE");
        Runs.run("7: in the highest row, each end of it", SCENE, "digs 0 0 = 3", "digs 2 0 = 6", "now 2 = 7");
        Runs.run("7: below one that was", SCENE, "digs 1 1 = 6", "now 2 = 18");
        Runs.run("7: left and right of one that was", SCENE, "digs 1 1 = 6", "digs 0 1 = 15", "digs 2 1 = 15", "now 2 = 58");
        Runs.run("7: above one that was", "text s3 3 111 111 119;", "hill = 1", "digs 0 0 = 1", "digs 0 1 = 2", "digs 0 2 = 3", "digs 2 1 = STATE", "digs 1 2 = 4", "digs 2 1 = STATE", "digs 2 2 = 13", "digs 2 1 = 14");
        Runs.run("7: from below to the highest row", "text s2 2 12 34;", "hill = 1", "digs 0 0 = 1", "digs 0 1 = 4", "digs 1 1 = 8", "digs 1 0 = 10", "now 2 = 15", "now 6 = 0");
        Runs.run("7: no CELLS yet: BAD", "digs 0 0 = BAD", "digs -1 -1 = BAD", "count 6 = 0");
        Runs.run("7: PARTS 0", "text s1 1 0;", "hill = 1", "digs 0 0 = 0", "now 2 = 1", "count 6 = 1", "digs 0 0 = STATE", "undo = 0", "now 2 = 0");
        Runs.run("7: beside does not go on from a row's end", "text s2 3 11 11 11;", "hill = 1", "digs 1 0 = 1", "digs 0 1 = STATE", "digs 1 1 = 2", "digs 0 2 = STATE", "digs 1 2 = 3", "digs 0 2 = 4", "digs 0 1 = 5");
        Runs.run("7: its PARTS come to THE STORE, to what is there", "text s1 1 9;t10 0 0 0;l0;", "hill = 3", "scrapes 0 = 10", "digs 0 0 = 19", "now 1 = 19");
    }

    private static void allDug() {
        String[] done = Runs.steps(SIX_THINGS_AND_ALL_NINES, allCellsDug());
        Runs.run("7: as many CELLS as there may be", done, "now 1 = 144", "now 2 = 65535", "now 6 = 0", "count 6 = 10");
        Runs.nothingChanges("7: all are DUG: STATE", done, "digs 0 0 = STATE", "digs 3 3 = STATE", "digs 3 0 = STATE");
        Runs.nothingChanges("7: all are DUG: BAD yet", done, "digs 4 0 = BAD", "digs 0 4 = BAD", "digs -1 0 = BAD");
    }

    private static void scraped() {
        Runs.nothingChanges("8: there is no such THING: BAD", SCENE, "scrapes -1 = BAD", "scrapes 3 = BAD", "scrapes " + FAR_BELOW + " = BAD", "scrapes " + FAR_ABOVE + " = BAD");
        Runs.nothingChanges("8: it has no YELLOW: STATE, its WHITE stays", SCENE, "scrapes 2 = STATE");
        Runs.run("8: no THINGS yet: BAD", "scrapes 0 = BAD", "count 6 = 0");
        Runs.run("8: all YELLOW goes to THE STORE, its WHITE is gone, too", "text t20 10 2 7;l0;", "hill = 2", "scrapes 0 = 20", "now 1 = 20", "thing 0 0 = 0", "thing 0 1 = 0", "thing 0 2 = 2", "thing 0 3 = 7", "thing 0 4 = 0");
        Runs.nothingChanges("8: SCRAPED already: STATE", Runs.steps(SCENE, "scrapes 0 = 15"), "scrapes 0 = STATE");
        Runs.run("8: the least YELLOW", "text t1 60 0 0;", "hill = 1", "scrapes 0 = 1", "thing 0 1 = 0", "count 6 = 1");
        Runs.run("8: faded to nothing: STATE", "text t2 5 1 0;", "hill = 1", "years 1 = 0", "scrapes 0 = 1", "undo = 1", "years 1 = 0", "scrapes 0 = STATE", "thing 0 1 = 5");
        Runs.run("8: PAINTED again it can be SCRAPED again", "text t9 0 0 0;l0;", "hill = 2", "scrapes 0 = 9", "scrapes 0 = STATE", "paints 0 1 = 1", "scrapes 0 = 1", "now 1 = 9");
        Runs.run("8: the last of six", SIX_THINGS_AND_ALL_NINES, "scrapes 5 = 60", "scrapes 6 = BAD", "thing 4 0 = 60");
        Runs.run("8: how much came, not what THE STORE has", "text s1 1 9;t10 0 0 0;l5;", "hill = 3", "digs 0 0 = 9", "scrapes 0 = 5", "now 1 = 14");
    }

    private static void scrapedByLoss() {
        for (int loss = 0; loss <= 10; loss++) {
            for (int yellow : new int[] {1, 2, 3, 9, 10, 11, 19, 59, 60}) {
                int lost = 0;
                while (10 * (lost + 1) <= yellow * loss) {
                    lost++;
                }
                Runs.run("8: less LOSS tenths of it (what is lost is cut)", "text t" + yellow + " 1 0 0;l" + loss + ";", "hill = 2",
                    "scrapes 0 = " + (yellow - lost), "now 1 = " + (yellow - lost), "thing 0 0 = 0", "count 6 = 1");
            }
        }
        Runs.run("8: LOSS 10: nothing comes, and it is SCRAPED all the same", "text t7 3 0 0;l10;", "hill = 2", "scrapes 0 = 0", "thing 0 0 = 0", "thing 0 1 = 0", "count 6 = 1", "scrapes 0 = STATE");
    }

    private static void painted() {
        String[] store120 = Runs.steps("text t60 0 0 0;t60 0 0 0;t5 0 0 0;l0;", "hill = 4", "scrapes 0 = 60", "scrapes 1 = 60", "keep 0", "keep 1");
        Runs.nothingChanges("9: n (1 .. 99): BAD", store120, "paints 0 0 = BAD", "paints 0 100 = BAD", "paints 0 -1 = BAD", "paints 0 120 = BAD", "paints 0 " + FAR_BELOW + " = BAD", "paints 0 " + FAR_ABOVE + " = BAD");
        Runs.run("9: n (1 .. 99): the least", store120, "paints 0 1 = 1", "now 1 = 119");
        Runs.run("9: n (1 .. 99): the most", store120, "paints 0 99 = 99", "now 1 = 21");
        Runs.run("9: THE STORE has just so much", store120, "paints 0 99 = 99", "paints 2 21 = 26", "now 1 = 0");
        Runs.nothingChanges("9: THE STORE has not so much: STATE", Runs.steps(store120, "paints 0 99 = 99"), "paints 2 22 = STATE", "paints 2 99 = STATE");
        Runs.nothingChanges("9: THE STORE is empty: STATE", Runs.steps("text t60 0 0 0;", "hill = 1"), "paints 0 1 = STATE", "paints 0 99 = STATE");
        Runs.nothingChanges("9: BAD ahead of STATE", Runs.steps("text t60 0 0 0;", "hill = 1"), "paints 0 0 = BAD", "paints 0 100 = BAD", "paints 1 1 = BAD", "paints -1 1 = BAD", "paints 1 100 = BAD");
        Runs.nothingChanges("9: there is no such THING: BAD", store120, "paints -1 1 = BAD", "paints 3 1 = BAD", "paints " + FAR_BELOW + " 1 = BAD", "paints " + FAR_ABOVE + " 1 = BAD");
        Runs.run("9: no THINGS yet: BAD", "paints 0 1 = BAD", "text s1 1 9;", "hill = 1", "digs 0 0 = 9", "paints 0 1 = BAD", "now 1 = 9");
        Runs.run("9: its YELLOW, not what THE STORE has", store120, "paints 2 4 = 9", "now 1 = 116", "thing 2 0 = 9", "thing 2 1 = 0");
        Runs.run("9: one that is not CALLED can be PAINTED", "text s1 1 9;t0 60 0 0;", "hill = 2", "digs 0 0 = 9", "paints 0 9 = 9", "thing 0 1 = 60", "thing 0 4 = 0");
    }

    /** YELLOW 999 can't be reached: 6 times 60 and 16 times 9 parts are all that a text can tell. So FULL is never answered. */
    private static void allYellowOnOne() {
        Runs.run("9: all YELLOW that there can be on one THING", SIX_THINGS_AND_ALL_NINES, allCellsDug(), "scrapes 1 = 60", "scrapes 2 = 60", "scrapes 3 = 60", "scrapes 4 = 60", "scrapes 5 = 60",
            "now 1 = 444", "4* paints 0 99", "thing 0 0 = 456", "paints 0 49 = STATE", "paints 0 48 = 504", "now 1 = 0", "now 5 = 504", "paints 0 1 = STATE", "lasts 0 = NONE", "spare 0 = 503", "far 0 = 504");
    }

    private static void stretched() {
        Runs.nothingChanges("10: n (1 .. 99): BAD", SCENE, "stretches 0 0 = BAD", "stretches 0 100 = BAD", "stretches 0 -1 = BAD", "stretches 0 " + FAR_BELOW + " = BAD", "stretches 0 " + FAR_ABOVE + " = BAD");
        Runs.run("10: n (1 .. 99)", SCENE, "stretches 0 1 = 13", "stretches 0 99 = 112", "thing 0 0 = 18");
        Runs.nothingChanges("10: there is no such THING: BAD", SCENE, "stretches -1 1 = BAD", "stretches 3 1 = BAD", "stretches " + FAR_BELOW + " 1 = BAD", "stretches " + FAR_ABOVE + " 1 = BAD");
        Runs.run("10: no THINGS yet: BAD", "stretches 0 1 = BAD", "count 6 = 0");
        String[] white990 = Runs.steps("text t1 0 0 0;t1 60 0 0;", "hill = 2", "10* stretches 0 99", "keep 0", "keep 1");
        Runs.run("10: WHITE (999 at most)", white990, "thing 0 1 = 990", "stretches 0 9 = 999", "thing 0 1 = 999");
        Runs.nothingChanges("10: WHITE would be 1000: FULL", white990, "stretches 0 10 = FULL", "stretches 0 99 = FULL");
        String[] white999 = Runs.steps(white990, "stretches 0 9");
        Runs.nothingChanges("10: WHITE is 999: FULL", white999, "stretches 0 1 = FULL", "stretches 0 99 = FULL");
        Runs.nothingChanges("10: BAD ahead of FULL", white999, "stretches 0 0 = BAD", "stretches 0 100 = BAD", "stretches 0 -1 = BAD", "stretches 2 1 = BAD", "stretches -1 99 = BAD", "stretches 0 " + FAR_ABOVE + " = BAD");
        Runs.run("10: FULL is one THING, not another", white999, "stretches 1 1 = 61");
        Runs.run("10: FULL no more, when it is SCRAPED", white999, "scrapes 0 = 1", "thing 0 1 = 0", "stretches 0 99 = 99");
        Runs.run("10: FULL no more, when it is UNDONE", white999, "stretches 0 1 = FULL", "undo = 9", "stretches 0 10 = FULL", "stretches 0 9 = 999");
        Runs.run("10: a THING with nothing can be STRETCHED", "text t0 0 0 0;", "hill = 1", "stretches 0 1 = 1", "thing 0 4 = 0");
    }

    private static void years() {
        Runs.nothingChanges("11: n (1 .. 99): BAD", SCENE, "years 0 = BAD", "years 100 = BAD", "years -1 = BAD", "years " + FAR_BELOW + " = BAD", "years " + FAR_ABOVE + " = BAD");
        Runs.run("11: n (1 .. 99): the least", SCENE, "years 1 = 0", "now 0 = 2", "thing 0 0 = 16");
        Runs.run("11: n (1 .. 99): the most", SCENE, "years 99 = 0", "now 0 = 100");
        Runs.run("11: YELLOW is 0 at least", "text t1 0 9 0;t9 0 9 0;t10 0 9 0;t0 5 9 0;t60 0 9 0;", "hill = 5", "years 1 = 2",
            "thing 0 0 = 0", "thing 1 0 = 0", "thing 2 0 = 1", "thing 3 0 = 0", "thing 3 1 = 5", "thing 4 0 = 51", "years 1 = 1", "thing 2 0 = 0", "years 99 = 0", "thing 4 0 = 0", "now 5 = 0");
        Runs.run("11: what FADES 0 stays", "text t1 1 0 0;t60 60 0 0;", "hill = 2", "10* years 99 = 2", "thing 0 0 = 1", "thing 1 0 = 60", "thing 1 1 = 60");
        Runs.run("11: how many THINGS are CALLED then: none there", "years 1 = 0", "now 0 = 1", "years 99 = 0", "now 0 = 100");
        Runs.run("11: how many THINGS are CALLED then: six", SIX_THINGS_AND_ALL_NINES, "years 99 = 6");
        Runs.run("11: how many THINGS are CALLED then, not before", "text t2 1 1 0;t3 1 1 0;t1 0 1 0;", "hill = 3", "years 1 = 2", "years 1 = 1", "years 1 = 0");
        Runs.run("11: n YEARS are as a YEAR n times", "text t60 20 3 0;t50 20 2 0;", "hill = 2", "years 13 = 2", "thing 0 0 = 21", "thing 1 0 = 24", "undo = 0", "13* years 1", "thing 0 0 = 21", "thing 1 0 = 24");
        Runs.run("11: UNDONE at once", "text t60 0 1 0;", "hill = 1", "years 50 = 1", "count 6 = 1", "undo = 0", "now 0 = 0", "thing 0 0 = 60", "undo = STATE");
    }

    private static void lastYear() {
        String[] year990 = Runs.steps("text t60 0 0 0;t60 0 1 0;", "hill = 2", "10* years 99", "keep 0", "keep 1");
        Runs.run("11: the YEAR is 999 at most", year990, "now 0 = 990", "years 9 = 1", "now 0 = 999");
        Runs.nothingChanges("11: it would be YEAR 1000: STATE", year990, "years 10 = STATE", "years 11 = STATE", "years 99 = STATE");
        String[] year999 = Runs.steps(year990, "years 9");
        Runs.nothingChanges("11: it is YEAR 999: STATE", year999, "years 1 = STATE", "years 99 = STATE");
        Runs.nothingChanges("11: BAD ahead of STATE", year999, "years 0 = BAD", "years 100 = BAD", "years -1 = BAD", "years " + FAR_ABOVE + " = BAD", "years " + FAR_BELOW + " = BAD");
        Runs.run("11: YEAR 900 and 99 more", "9* years 99", "years 9 = 0", "now 0 = 900", "years 99 = 0", "now 0 = 999");
        Runs.run("11: YEAR 901 and 99 more", "9* years 99", "years 10 = 0", "now 0 = 901", "years 99 = STATE", "now 0 = 901", "years 98 = 0", "now 0 = 999");
        Runs.run("11: STATE no more, when YEARS are UNDONE", year999, "years 1 = STATE", "undo = 9", "now 0 = 990", "years 9 = 1");
        Runs.run("11: other deeds go on in YEAR 999", year999, "stretches 0 1 = 1", "scrapes 0 = 42", "paints 1 42 = 42", "now 0 = 999");
    }

    private static void undone() {
        String[] deeds = {"digs 1 1 = 6", "digs 0 0 = 3", "scrapes 0 = 15", "scrapes 1 = 7", "paints 2 2 = 2", "stretches 0 1 = 13", "stretches 2 99 = 102", "years 1 = 0", "years 99 = 0"};
        for (String deed : deeds) {
            Runs.same("12: all is as ahead of it", SCENE, Runs.steps(SCENE, deed, "undo = 3"));
        }
        Runs.same("12: all is as ahead of it, one behind another", SCENE, Runs.steps(SCENE, "digs 1 1", "scrapes 0", "paints 2 9", "stretches 2 9", "years 9",
            "undo = 7", "undo = 6", "undo = 5", "undo = 4", "undo = 3"));
        Runs.nothingChanges("12: none: STATE", Runs.steps("text t9 0 1 1;", "hill = 1"), "undo = STATE");
        Runs.nothingChanges("12: none any more: STATE", Runs.steps("text t9 0 1 1;", "hill = 1", "years 1 = 1", "undo = 0"), "undo = STATE");
        Runs.run("12: none of a new object: STATE", "undo = STATE", "undo = STATE", "count 6 = 0");
        Runs.run("12: what was UNDONE does not come again", "text t9 0 1 1;", "hill = 1", "years 1 = 1", "years 2 = 1", "undo = 1", "stretches 0 1 = 1", "undo = 1", "now 0 = 1", "undo = 0", "now 0 = 0", "undo = STATE");
    }

    private static void tenAreKnown() {
        String[] told = Runs.steps("text s4 1 1234;t60 0 1 1;", "hill = 2");
        for (int n = 0; n <= 13; n++) {
            int known = Math.min(n, 10);
            Runs.run("12: 10 are known, older ones are lost", told, n + "* years 1", "count 6 = " + known, known + "* undo", "now 0 = " + (n - known), "thing 0 0 = " + (60 - n + known), "count 6 = 0", "undo = STATE");
        }
        Runs.run("12: how many more may be", told, "12* years 1", "undo = 9", "undo = 8", "undo = 7", "undo = 6", "undo = 5", "undo = 4", "undo = 3", "undo = 2", "undo = 1", "undo = 0", "undo = STATE", "now 0 = 2");
        Runs.run("12: room for as many again behind UNDONE ones", told, "10* years 1", "4* undo", "count 6 = 6", "4* stretches 0 1", "count 6 = 10", "stretches 0 1 = 5", "count 6 = 10", "10* undo", "now 0 = 1", "thing 0 1 = 0", "undo = STATE");
        Runs.run("12: the eleventh deed of each kind", told, "10* years 1", "digs 0 0 = 1", "count 6 = 10", "paints 0 1 = 51", "count 6 = 10", "scrapes 0 = 36", "count 6 = 10", "9* undo", "now 0 = 4", "undo = 0", "now 0 = 3", "undo = STATE");
        Runs.nothingChanges("12: older ones are lost: STATE", Runs.steps(told, "11* years 1", "10* undo"), "undo = STATE");
    }

    private static void whatIsNotUndone() {
        String[] told = Runs.steps("text s2 1 34;t20 10 1 5;", "hill = 2", "digs 0 0 = 3");
        Runs.run("12: only what was DUG, SCRAPED, PAINTED, STRETCHED, YEARS are UNDONE", told, "came 4 = 1", "mark 0 0 = 20", "keep 0 = 0", "text b7", "years 1 = 1", "came 3 = 2", "undo = 1",
            "count 5 = 2", "trace = 1", "count 7 = 2", "back 0 = 0", "count 6 = 1");
        Runs.run("12: a refused call is not among them", told, "digs 0 0 = STATE", "digs 9 9 = BAD", "scrapes 1 = BAD", "paints 0 9 = STATE", "stretches 0 0 = BAD", "years 0 = BAD", "back 1 = STATE", "came 10 = BAD", "count 6 = 1", "undo = 0", "now 2 = 0");
        Runs.run("12: what only tells is not among them", told, "lasts 0", "first", "needs 0 5", "kept 5 0", "bestDig 2 0", "far 0", "sell 0 9 0", "spare 0", "rich", "odds 0 5 5 0", "fits -1", "now 0", "cell 0 0 0", "thing 0 0", "count 6 = 1", "undo = 0");
        Runs.run("12: keep() and back() are not among them", told, "keep 0 = 0", "count 6 = 1", "back 0 = 0", "count 6 = 1", "undo = 0", "undo = STATE");
    }

    private static void now() {
        Runs.nothingChanges("13: what 0 .. 6: BAD", SCENE, "now -1 = BAD", "now 7 = BAD", "now " + FAR_BELOW + " = BAD", "now " + FAR_ABOVE + " = BAD");
        Runs.nothingChanges("13: what 0 .. 6", SCENE, "now 0 = 1", "now 1 = 2", "now 2 = 2", "now 3 = 1", "now 4 = 7", "now 5 = 26", "now 6 = 17");
        Runs.run("13: nothing there yet", "now 0 = 0", "now 1 = 0", "now 2 = 0", "now 3 = 0", "now 4 = 0", "now 5 = 0", "now 6 = 0", "now -1 = BAD", "now 7 = BAD");
        Runs.run("13: as much as there may be", SIX_THINGS_AND_ALL_NINES, "now 3 = 63", "now 4 = 594", "now 5 = 360", "now 6 = 144", "now 2 = 0", allCellsDug(), "now 1 = 144", "now 2 = 65535", "now 6 = 0");
        Runs.run("13: all YELLOW in THE STORE", SIX_THINGS_AND_ALL_NINES, "scrapes 0", "scrapes 1", "scrapes 2", "scrapes 3", "scrapes 4", "scrapes 5", allScrapedAndDug(), "now 1 = 504", "now 5 = 0", "now 3 = 0", "now 4 = 0");
        Runs.run("13: the WORTH of those that are CALLED alone", "text t1 0 0 1;t1 2 0 2;t1 1 0 4;t0 0 0 8;", "hill = 4", "now 3 = 5", "now 4 = 5", "now 5 = 3");
        Runs.run("13: YELLOW of all THINGS, CALLED or not", "text t1 9 0 1;t60 0 0 2;t7 60 0 4;", "hill = 3", "now 5 = 68", "now 3 = 2");
        Runs.run("13: none is CALLED", "text t1 2 0 9;t0 0 0 9;", "hill = 2", "now 3 = 0", "now 4 = 0", "now 5 = 1");
    }

    private static String[] allScrapedAndDug() {
        String[] digs = new String[16];
        for (int c = 0; c < 16; c++) {
            digs[c] = "digs " + c % 4 + " " + c / 4 + " = " + (360 + 9 * (c + 1));
        }
        return digs;
    }
}
