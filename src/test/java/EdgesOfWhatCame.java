/** Promises 24 to 26, and "Terms", 3: what CAME, and the rows of CELLS that it FITS. */
public final class EdgesOfWhatCame {
    private static final String[] SCENE = Runs.steps(
        "text s3 2 123 940;t20 10 2 7;t9 9 1 4;b6;l2;", "hill = 5", "digs 1 0 = 2", "keep 0 = 0", "years 1 = 1",
        "stretches 0 2 = 12", "keep 1 = 1", "came 4 = 1", "mark 3 0 = 50", "text b7;");
    private static final String FAR_BELOW = "-2147483648";
    private static final String FAR_ABOVE = "2147483647";

    public static void main(String[] args) {
        came();
        fiveAtMost();
        forget();
        whatFitsMayBe();
        nothingCame();
        noCells();
        notSoMany();
        noRow();
        eachCellOnce();
        theFirst();
        pairs();
        inEachRow();
        fromNowOn();
        askedAgain();
        asManyRowsAsThereMayBe();
        Runs.end();
    }

    private static String[] told(String text) {
        return Runs.steps("text " + text, "hill");
    }

    private static void came() {
        Runs.nothingChanges("24: PARTS (0 .. 9): BAD", SCENE, "came -1 = BAD", "came 10 = BAD", "came " + FAR_BELOW + " = BAD", "came " + FAR_ABOVE + " = BAD");
        Runs.nothingChanges("24: PARTS (0 .. 9): BAD, nothing CAME yet", told("s1 1 9;"), "came -1 = BAD", "came 10 = BAD");
        Runs.run("24: PARTS (0 .. 9)", told("s2 1 90;"), "came 0 = 1", "fits 0 = 10", "came 9 = 2", "fits 1 = 0", "fits -1 = 1", "count 5 = 2");
        Runs.run("24: before there are CELLS", "came 0 = 1", "came 9 = 2", "count 5 = 2", "fits -1 = 0");
    }

    private static void fiveAtMost() {
        String[] five = Runs.steps(SCENE, "came 0 = 2", "came 9 = 3", "came 1 = 4", "came 3 = 5");
        Runs.run("24: CAME (5 at most)", five, "count 5 = 5", "fits -1 = 1", "fits -2 = 61", "fits 4 = 20");
        Runs.nothingChanges("24: a sixth: FULL", five, "came 0 = FULL", "came 9 = FULL", "came 4 = FULL");
        Runs.nothingChanges("24: BAD ahead of FULL", five, "came -1 = BAD", "came 10 = BAD", "came " + FAR_BELOW + " = BAD", "came " + FAR_ABOVE + " = BAD");
        Runs.run("24: FULL no more, when it is forgotten", five, "came 0 = FULL", "forget = 5", "came 0 = 1");
        Runs.run("24: FULL no more, when a text is read", five, "hill = 1", "came 0 = 1");
    }

    private static void forget() {
        Runs.run("25: how much there was", "forget = 0", "came 1 = 1", "forget = 1", "forget = 0", "5* came 2", "forget = 5", "forget = 0", "count 5 = 0");
        Runs.run("25: nothing CAME", told("s2 1 12;"), "came 2 = 1", "fits -1 = 1", "fits 0 = 10", "forget = 1", "fits -1 = 1", "fits -2 = 0", "fits 0 = NONE", "came 1 = 1", "fits 0 = 0");
        Runs.run("25: nothing CAME, of what did not fit", told("s2 1 12;"), "came 9 = 1", "fits -1 = 0", "forget = 1", "fits -1 = 1");
        Runs.nothingChanges("25: nothing but that changes", Runs.steps(SCENE, "forget = 1"), "forget = 0");
        Runs.same("25: as if nothing had come", Runs.steps(SCENE, "forget = 1"), Runs.steps(SCENE, "came 0 = 2", "came 9 = 3", "fits -1 = 1", "forget = 3"));
    }

    private static void whatFitsMayBe() {
        Runs.nothingChanges("26: BAD (i -2 .. 4)", SCENE, "fits -3 = BAD", "fits 5 = BAD", "fits " + FAR_BELOW + " = BAD", "fits " + FAR_ABOVE + " = BAD");
        Runs.run("26: BAD (i -2 .. 4), of a new object", "fits -3 = BAD", "fits 5 = BAD", "fits -2 = 0", "fits 4 = NONE");
        Runs.nothingChanges("26: nothing is changed", SCENE, "fits -2 = 16", "fits -1 = 1", "fits 0 = 11", "fits 1 = NONE", "fits 4 = NONE");
    }

    private static void nothingCame() {
        Runs.run("26: nothing CAME: the row without CELLS", told("s2 1 12;"), "fits -1 = 1", "fits -2 = 0", "fits 0 = NONE", "fits 1 = NONE", "fits 4 = NONE");
        Runs.run("26: nothing CAME, no CELLS", "fits -1 = 1", "fits -2 = 0", "fits 0 = NONE", "fits 4 = NONE");
        Runs.run("26: nothing CAME, all are DUG", told("s1 1 5;"), "digs 0 0 = 5", "fits -1 = 1", "fits -2 = 0", "fits 0 = NONE");
    }

    private static void noCells() {
        Runs.run("26: no CELLS: no row", "came 0 = 1", "fits -1 = 0", "fits -2 = 0", "fits 0 = NONE");
        Runs.run("26: all are DUG: no row", told("s2 1 55;"), "digs 0 0 = 5", "digs 1 0 = 10", "came 5 = 1", "fits -1 = 0", "fits -2 = 0", "fits 0 = NONE");
        Runs.run("26: more CAME than there are CELLS: no row", told("s2 2 55 55;"), "4* came 5", "fits -1 = 8", "fits -2 = 15", "came 5 = 5", "fits -1 = 0", "fits -2 = 0", "fits 0 = NONE");
    }

    private static void notSoMany() {
        String[] deep = told("s1 4 5432;");
        String[] numbers = {"came 5", "came 4", "came 3", "came 2"};
        for (int n = 0; n <= 4; n++) {
            String[] some = java.util.Arrays.copyOf(numbers, n);
            for (int i = 0; i <= 4; i++) {
                Runs.run("26: NONE: not so many", deep, some, "fits " + i + " = " + (i < n ? i : -9));
            }
            Runs.run("26: in each row", deep, some, "fits -1 = 1", "fits -2 = " + ((1 << n) - 1));
        }
        Runs.run("26: the fifth of five", told("s4 2 1234 5678;"), "came 4 = 1", "came 8 = 2", "came 7 = 3", "came 6 = 4", "fits 3 = 11", "fits 4 = NONE", "came 5 = 5", "fits 4 = 1", "fits 3 = 11", "fits -1 = 1", "fits -2 = 248");
    }

    private static void noRow() {
        Runs.run("26: NONE: no row, PARTS that none has", told("s2 1 12;"), "came 3 = 1", "fits -1 = 0", "fits -2 = 0", "fits 0 = NONE");
        Runs.run("26: NONE: no row, one that can't be DUG yet", told("s1 2 12;"), "came 2 = 1", "fits -1 = 0", "fits 0 = NONE");
        Runs.run("26: NONE: no row, the last does not fit", told("s1 2 12;"), "came 1 = 1", "fits 0 = 0", "came 1 = 2", "fits -1 = 0", "fits -2 = 0", "fits 0 = NONE", "fits 1 = NONE");
        Runs.run("26: no row, and none with more behind it", told("s1 2 12;"), "came 2 = 1", "fits -1 = 0", "came 1 = 2", "fits -1 = 0", "fits -2 = 0");
    }

    private static void eachCellOnce() {
        Runs.run("26: a CELL is DUG once", told("s2 1 44;"), "came 4 = 1", "fits -1 = 2", "came 4 = 2", "fits -1 = 2", "fits -2 = 3", "came 4 = 3", "fits -1 = 0");
        Runs.run("26: one that was DUG is none of them", told("s2 1 44;"), "digs 0 0 = 4", "came 4 = 1", "fits -1 = 1", "fits 0 = 10", "came 4 = 2", "fits -1 = 0");
        Runs.run("26: beside, not aslant", told("s2 2 12 34;"), "came 1 = 1", "came 4 = 2", "fits -1 = 0", "forget = 2", "came 1 = 1", "came 3 = 2", "came 4 = 3", "fits -1 = 1", "fits -2 = 13");
        Runs.run("26: not from a row's end to the next row", told("s2 2 12 34;"), "came 2 = 1", "came 3 = 2", "fits -1 = 0");
        Runs.run("26: not from a row's begin to the one above", told("s3 3 123 456 789;"), "came 1 = 1", "came 4 = 2", "came 7 = 3", "came 6 = 4", "fits -1 = 0", "forget = 4",
            "came 1 = 1", "came 4 = 2", "came 7 = 3", "came 8 = 4", "came 9 = 5", "fits -1 = 1", "fits -2 = 457");
        Runs.run("26: upward, too", told("s2 2 12 34;"), "came 2 = 1", "came 4 = 2", "came 3 = 3", "came 1 = 4", "fits -1 = 1", "fits 3 = 0", "fits 2 = 1", "fits 1 = 11", "fits 0 = 10");
    }

    private static void theFirst() {
        Runs.run("26: as bits rise", told("s4 1 5555;"), "came 5 = 1", "fits -1 = 4", "fits 0 = 0", "came 5 = 2", "fits -1 = 12", "fits 0 = 0", "fits 1 = 10");
        Runs.run("26: as bits rise, the first one first", told("s3 1 676;"), "came 6 = 1", "came 7 = 2", "fits -1 = 2", "fits 0 = 0", "fits 1 = 10", "came 6 = 3", "fits -1 = 2", "fits 0 = 0", "fits 2 = 20");
        Runs.run("26: the first one first, though the second is a lesser one in another", told("s3 2 121 333;"), "came 1 = 1", "came 3 = 2", "fits -1 = 2", "fits 0 = 0", "fits 1 = 1", "fits -2 = 0");
        Runs.run("26: the first that goes to the end", told("s2 2 55 16;"), "came 5 = 1", "came 6 = 2", "fits -1 = 1", "fits 0 = 10", "fits 1 = 11", "fits -2 = 10");
        Runs.run("26: the least of bits, not of PAIRS", told("s2 2 15 50;"), "digs 0 0 = 1", "came 5 = 1", "fits -1 = 2", "fits 0 = 10", "came 5 = 2", "fits 0 = 10", "fits 1 = 1");
    }

    private static void pairs() {
        String[] corners = told("s4 4 1002 0000 0000 3004;");
        Runs.run("26: a PAIR, X 0, Y 0", corners, "came 1 = 1", "fits 0 = 0");
        Runs.run("26: a PAIR, X 3, Y 0", corners, "came 2 = 1", "fits 0 = 30", "fits -2 = 8");
        Runs.run("26: a PAIR, X 0, Y 3", corners, "digs 0 0", "digs 0 1", "digs 0 2", "came 3 = 1", "fits 0 = 3", "fits -2 = 4096");
        Runs.run("26: a PAIR, X 3, Y 3", corners, "digs 3 0", "digs 3 1", "digs 3 2", "came 4 = 1", "fits 0 = 33", "fits -2 = 32768");
        Runs.run("26: a PAIR of three by two", told("s3 2 123 456;"), "came 2 = 1", "came 5 = 2", "came 6 = 3", "fits 0 = 10", "fits 1 = 11", "fits 2 = 21", "fits -2 = 50");
    }

    private static void inEachRow() {
        Runs.run("26: CELLS that are in each row: none is", told("s2 1 55;"), "came 5 = 1", "fits -1 = 2", "fits -2 = 0");
        Runs.run("26: CELLS that are in each row: some are", told("s3 1 575;"), "came 5 = 1", "came 7 = 2", "fits -1 = 2", "fits -2 = 2");
        Runs.run("26: CELLS that are in each row: all are, one behind another in any way", told("s3 1 555;"), "3* came 5", "fits -1 = 6", "fits -2 = 7");
    }

    private static void fromNowOn() {
        String[] told = told("s2 2 57 55;");
        Runs.run("26: from how it is NOW on: DUG", told, "came 5 = 1", "fits -1 = 1", "fits 0 = 0", "digs 0 0 = 5", "fits -1 = 1", "fits 0 = 1", "digs 1 0 = 12", "fits -1 = 2", "fits 0 = 1");
        Runs.run("26: from how it is NOW on: UNDONE", told, "came 5 = 1", "digs 0 0 = 5", "fits 0 = 1", "undo = 0", "fits 0 = 0");
        Runs.run("26: from how it is NOW on: an IMAGE", told, "keep 0 = 0", "came 5 = 1", "digs 0 0 = 5", "keep 1 = 0", "fits 0 = 1", "back 0 = 0", "fits 0 = 0", "back 1 = 0", "fits 0 = 1", "count 5 = 1");
        Runs.run("26: what CAME stays, when what is DUG is UNDONE", told, "digs 0 0 = 5", "came 5 = 1", "undo = 0", "count 5 = 1", "years 1 = 0", "count 5 = 1");
    }

    private static void askedAgain() {
        Runs.run("26: asked again when more CAME", told("s4 1 1231;"), "came 1 = 1", "fits -1 = 2", "fits -2 = 0", "came 3 = 2", "fits -1 = 2", "fits -2 = 4", "came 1 = 3", "fits -1 = 2", "fits -2 = 13", "fits 2 = 30");
        Runs.run("26: asked again when other PARTS CAME", told("s2 1 12;"), "came 1 = 1", "fits 0 = 0", "forget = 1", "came 2 = 1", "fits 0 = 10");
        Runs.run("26: asked again when other CELLS are told", told("s2 1 12;"), "came 1 = 1", "fits 0 = 0", told("s2 1 21;"), "fits 0 = NONE", "came 1 = 1", "fits 0 = 10");
        Runs.run("26: asked again all the same", told("s2 1 55;"), "came 5 = 1", "fits -1 = 2", "fits -1 = 2", "fits -2 = 0", "fits 0 = 0", "fits -1 = 2");
    }

    private static void asManyRowsAsThereMayBe() {
        String[] alike = told("s4 4 5555555555555555;");
        Runs.run("26: as many rows as there may be", alike, "5* came 5", "fits -1 = " + rows(0, 5), "fits -2 = 0", "fits 0 = 0", "fits 1 = 10", "fits 2 = 20", "fits 3 = 30", "fits 4 = 1", "came 5 = FULL");
        Runs.run("26: as many rows as there may be, the upper rows DUG", alike, "digs 0 0", "digs 1 0", "digs 2 0", "digs 3 0", "digs 0 1", "digs 1 1", "digs 2 1", "digs 3 1", "5* came 5",
            "fits -1 = " + rows(255, 5), "fits -2 = 0", "fits 0 = 2", "fits 4 = 3");
        Runs.run("26: as many rows as there may be, the highest row DUG", alike, "digs 0 0", "digs 1 0", "digs 2 0", "digs 3 0", "5* came 5", "fits -1 = " + rows(15, 5));
    }

    /** Rows of so many CELLS of a seam of four by four, from these DUG on, counted by walking X and Y. */
    private static int rows(int dug, int left) {
        if (left == 0) {
            return 1;
        }
        int sum = 0;
        for (int y = 0; y < 4; y++) {
            for (int x = 0; x < 4; x++) {
                boolean beside = y == 0 || isDug(dug, x, y - 1) || isDug(dug, x, y + 1) || isDug(dug, x - 1, y) || isDug(dug, x + 1, y);
                if (!isDug(dug, x, y) && beside) {
                    sum += rows(dug | 1 << 4 * y + x, left - 1);
                }
            }
        }
        return sum;
    }

    private static boolean isDug(int dug, int x, int y) {
        return x >= 0 && x < 4 && y >= 0 && y < 4 && (dug >> 4 * y + x & 1) == 1;
    }
}
