/** Promises 27 to 31, and "Terms", 4: MARKS and THE TRACE, IMAGES, what is counted; and that 512 calls are answered. */
public final class EdgesOfKindsAndImages {
    private static final String[] SCENE = Runs.steps(
        "text s3 2 123 940;t20 10 2 7;t9 9 1 4;b6;l2;", "hill = 5", "digs 1 0 = 2", "keep 0 = 0", "years 1 = 1",
        "stretches 0 2 = 12", "came 4 = 1", "mark 3 0 = 50", "text b7;");
    private static final String[] DEEDS = {"digs 1 1", "scrapes 0", "paints 1 3", "stretches 1 9", "years 5"};
    private static final String FAR_BELOW = "-2147483648";
    private static final String FAR_ABOVE = "2147483647";

    public static void main(String[] args) {
        marksRefused();
        marks();
        marksBelowZero();
        traceOfEachKind();
        traceStays();
        imagesRefused();
        imagesKept();
        imagesTaken();
        imagesHoldWhatMayBeUndone();
        imagesHoldNothingElse();
        counts();
        countsAtTheirMost();
        calls512();
        constants();
        Runs.end();
    }

    private static String[] told(String text) {
        return Runs.steps("text " + text, "hill");
    }

    private static void marksRefused() {
        Runs.nothingChanges("27: KINDS 0 .. 5: NO", SCENE, "mark -1 0 = NO", "mark 6 0 = NO", "mark " + FAR_BELOW + " 0 = NO", "mark " + FAR_ABOVE + " 0 = NO");
        Runs.nothingChanges("27: there is no such THING: NO", SCENE, "mark 0 -1 = NO", "mark 0 2 = NO", "mark 5 2 = NO", "mark 3 -1 = NO", "mark 0 " + FAR_BELOW + " = NO", "mark 0 " + FAR_ABOVE + " = NO", "mark 6 2 = NO");
        Runs.run("27: no THINGS yet: NO", "mark 0 0 = NO", "mark 5 0 = NO", "trace = 0");
        Runs.run("27: the last of six", told("t1 0 0 0;".repeat(5) + "t7 0 0 3;"), "mark 0 5 = 7", "mark 1 5 = 10", "mark 0 6 = NO", "trace = 12");
    }

    private static void marks() {
        String[] told = Runs.steps(told("t20 10 2 7;t0 0 0 0;b4;"), "years 5 = 1");
        Runs.run("27: THING its YELLOW", told, "mark 0 0 = 10", "mark 0 1 = 0");
        Runs.run("27: PAINTING up, and its WORTH", told, "mark 1 0 = 17", "mark 1 1 = 0");
        Runs.run("27: LEMON up less its WHITE", told, "mark 2 0 = 0", "mark 2 1 = 0");
        Runs.run("27: SUN up times 2", told, "mark 3 0 = 34", "mark 3 1 = 0");
        Runs.run("27: BUTTER up, and BOUND", told, "mark 4 0 = 4", "mark 4 1 = 4");
        Runs.run("27: BEE up, and the YEAR", told, "mark 5 0 = 15", "mark 5 1 = 5");
        Runs.run("27: the most of each", told("t60 0 0 99;b10;"), "mark 0 0 = 60", "mark 1 0 = 159", "mark 2 0 = 60", "mark 3 0 = 318", "mark 4 0 = 70", "mark 5 0 = 60", "10* years 99", "years 9", "mark 5 0 = 1059");
        Runs.run("27: as it is NOW", told("t20 10 2 7;l0;"), "mark 0 0 = 20", "scrapes 0 = 20", "mark 0 0 = 0", "mark 2 0 = 0", "undo = 0", "mark 2 0 = 10");
    }

    private static void marksBelowZero() {
        Runs.run("27: below 0, as BAD, STATE, FULL and NONE are", told("t0 1 0 0;t0 2 0 0;t0 3 0 0;t0 9 0 0;b1;"), "mark 2 0 = -1", "mark 2 1 = -2", "mark 2 2 = -3", "mark 2 3 = -9", "mark 4 1 = -1", "trace = 10505");
        Runs.run("27: the least of all", told("t0 9 0 0;b1;"), "10* stretches 0 99", "mark 2 0 = -999", "mark 4 0 = -998");
    }

    private static void traceOfEachKind() {
        int[] numbers = {1, 11, 101, 1011, 10101, 100001};
        for (int kind = 0; kind < numbers.length; kind++) {
            Runs.run("31: numbers come to THE TRACE as often as mark() asks that body", told("t9 0 0 0;"), "trace = 0", "mark " + kind + " 0", "trace = " + numbers[kind], "mark " + kind + " 0", "trace = " + 2 * numbers[kind], "trace = " + 2 * numbers[kind]);
        }
        Runs.run("31: the most that 512 calls can bring", told("t9 0 0 0;"), "500* mark 5 0 = 9", "trace = 50000500");
    }

    private static void traceStays() {
        String[] told = Runs.steps(told("s1 1 5;t9 0 1 0;"), "keep 0 = 0", "mark 4 0 = 14", "years 1 = 1");
        Runs.run("31: refused marks bring nothing", told, "mark 6 0 = NO", "mark 0 1 = NO", "mark -1 -1 = NO", "trace = 10101");
        Runs.run("31: it is not UNDONE", told, "undo = 0", "trace = 10101");
        Runs.run("31: it is not in an IMAGE", told, "back 0 = 0", "trace = 10101");
        Runs.run("31: it is not gone with a text", told, "hill = 0", "trace = 10101", "text x", "hill = -10", "trace = 10101", "clear = 1", "trace = 10101");
        Runs.run("31: nothing else brings anything", told, "lasts 0", "sell 0 9 1", "kept 5 0", "digs 0 0", "paints 0 5", "stretches 0 5", "scrapes 0", "came 5", "fits -1", "forget", "keep 1", "now 3", "trace = 10101");
    }

    private static void imagesRefused() {
        Runs.nothingChanges("28: IMAGES 0, 1: BAD", SCENE, "keep -1 = BAD", "keep 2 = BAD", "keep " + FAR_BELOW + " = BAD", "keep " + FAR_ABOVE + " = BAD");
        Runs.nothingChanges("29: IMAGES 0, 1: BAD", SCENE, "back -1 = BAD", "back 2 = BAD", "back " + FAR_BELOW + " = BAD", "back " + FAR_ABOVE + " = BAD");
        Runs.nothingChanges("29: none was kept: STATE", SCENE, "back 1 = STATE");
        Runs.nothingChanges("29: none was kept at all: STATE; BAD ahead of it", told("t9 0 1 1;"), "back 0 = STATE", "back 1 = STATE", "back 2 = BAD", "back -1 = BAD");
        Runs.run("29: none was kept, but the other", told("t9 0 1 1;"), "keep 1 = 0", "back 0 = STATE", "back 1 = 0", "keep 0 = 0", "back 0 = 0");
        Runs.run("28: a new object can be kept", "keep 0 = 0", "keep 1 = 0", "years 5 = 0", "back 1 = 0", "now 0 = 0", "count 6 = 0", "back 0 = 0");
        Runs.run("29: none was kept since the text was read: STATE", "keep 0 = 0", "keep 1 = 0", "text b5;", "hill = 1", "back 0 = STATE", "back 1 = STATE");
        Runs.run("29: a refused text takes no IMAGE", "years 3 = 0", "keep 0 = 3", "years 1 = 0", "text x", "hill = -10", "back 0 = 3");
    }

    private static void imagesKept() {
        Runs.run("28: the YEAR", told("t9 0 0 1;"), "keep 0 = 0", "years 99 = 1", "keep 1 = 99", "9* years 99", "years 9 = 1", "keep 0 = 999", "back 1 = 99", "back 0 = 999");
        Runs.run("28: kept again, the older is gone", told("t9 0 0 1;"), "years 1 = 1", "keep 0 = 1", "years 1 = 1", "keep 0 = 2", "years 1 = 1", "back 0 = 2", "undo = 1", "back 0 = 2");
        Runs.run("28: one is not the other", told("t9 0 0 1;"), "years 1 = 1", "keep 0 = 1", "years 1 = 1", "keep 1 = 2", "years 1 = 1", "back 0 = 1", "back 1 = 2", "back 0 = 1");
        Runs.same("28: nothing is changed by it but the IMAGE", Runs.steps(SCENE, "keep 1 = 1"), Runs.steps(SCENE, "keep 1 = 1", "keep 1 = 1"));
        Runs.run("28: what is done behind it is not in it", SCENE, "keep 1 = 1", DEEDS, "back 1 = 1", "now 1 = 2", "now 2 = 2", "now 5 = 26", "thing 0 1 = 12", "thing 1 1 = 9", "count 6 = 3");
    }

    private static void imagesTaken() {
        Runs.same("29: all of that becomes as an IMAGE has it", Runs.steps(SCENE, "keep 1 = 1"), Runs.steps(SCENE, "keep 1 = 1", DEEDS, "back 1 = 1"));
        for (String deed : DEEDS) {
            Runs.same("29: CELLS DUG, THE STORE, THINGS, the YEAR, what may be UNDONE", Runs.steps(SCENE, "keep 1 = 1"), Runs.steps(SCENE, "keep 1 = 1", deed, "back 1 = 1"));
        }
        Runs.same("29: it can be taken again", Runs.steps(SCENE, "keep 1 = 1"), Runs.steps(SCENE, "keep 1 = 1", DEEDS, "back 1 = 1", DEEDS, "undo", "undo", "back 1 = 1", "back 1 = 1"));
        Runs.same("29: the other IMAGE stays", Runs.steps(SCENE, "keep 1 = 1"), Runs.steps(SCENE, "keep 1 = 1", "back 0 = 0", "back 1 = 1"));
        Runs.nothingChanges("29: at once behind keep()", Runs.steps(SCENE, "keep 1 = 1"), "back 1 = 1");
        Runs.run("29: FITS and DIG are from it on", SCENE, "fits 0 = 11", "bestDig 1 0 = 16", "digs 1 1 = 6", "fits 0 = NONE", "bestDig 1 0 = 8", "back 0 = 0", "fits 0 = 11", "bestDig 1 0 = 16");
    }

    private static void imagesHoldWhatMayBeUndone() {
        String[] told = told("t60 0 1 1;");
        for (int n = 0; n <= 12; n++) {
            int known = Math.min(n, 10);
            Runs.run("29: what may be UNDONE, 10 at most", told, n + "* years 1", "keep 1 = " + n, "12* stretches 0 1", "back 1 = " + n, "count 6 = " + known, "thing 0 1 = 0",
                known + "* undo", "now 0 = " + (n - known), "thing 0 0 = " + (60 - n + known), "undo = STATE", "back 1 = " + n, "count 6 = " + known);
        }
        Runs.run("29: nothing may be UNDONE, though there was", told, "keep 0 = 0", "5* years 1", "back 0 = 0", "undo = STATE", "count 6 = 0");
        Runs.run("29: what may be UNDONE, though nothing could any more", told, "3* years 1", "keep 0 = 3", "3* undo", "undo = STATE", "back 0 = 3", "undo = 2", "now 0 = 2");
        Runs.run("29: back() itself is not UNDONE", told, "years 1 = 1", "keep 0 = 1", "years 7 = 1", "back 0 = 1", "undo = 0", "now 0 = 0", "undo = STATE");
        Runs.run("29: the eleventh deed behind an IMAGE of ten", told, "11* years 1", "keep 0 = 11", "back 0 = 11", "years 1 = 1", "count 6 = 10", "10* undo", "now 0 = 2", "undo = STATE");
    }

    private static void imagesHoldNothingElse() {
        Runs.run("29: nothing else: what CAME", told("s2 1 12;"), "came 1 = 1", "keep 0 = 0", "came 2 = 2", "back 0 = 0", "count 5 = 2", "forget = 2", "back 0 = 0", "count 5 = 0");
        Runs.run("29: nothing else: THE TEXT", told("s2 1 12;"), "text b7", "keep 0 = 0", "type 59 = 3", "back 0 = 0", "count 7 = 3", "hill = 1", "count 3 = 7");
        Runs.run("29: nothing else: THE TRACE", told("t9 0 0 0;"), "keep 0 = 0", "mark 0 0 = 9", "back 0 = 0", "trace = 1");
        Runs.run("29: nothing else: BOUND and LOSS are as told", told("t9 0 0 0;b7;l8;"), "keep 0 = 0", "back 0 = 0", "count 3 = 7", "count 4 = 8");
    }

    private static void counts() {
        Runs.nothingChanges("30: what 0 .. 7: BAD", SCENE, "count -1 = BAD", "count 8 = BAD", "count " + FAR_BELOW + " = BAD", "count " + FAR_ABOVE + " = BAD");
        Runs.nothingChanges("30: what 0 .. 7", SCENE, "count 0 = 3", "count 1 = 2", "count 2 = 2", "count 3 = 6", "count 4 = 2", "count 5 = 1", "count 6 = 3", "count 7 = 3");
        Runs.run("30: nothing there yet", "count 0 = 0", "count 1 = 0", "count 2 = 0", "count 3 = 5", "count 4 = 3", "count 5 = 0", "count 6 = 0", "count 7 = 0", "count 8 = BAD", "count -1 = BAD");
        Runs.nothingChanges("31: it only tells", SCENE, "trace = 1011");
    }

    private static void countsAtTheirMost() {
        Runs.run("30: as much as there may be", told("s4 4 1111111111111111;" + "t1 0 0 1;".repeat(6) + "b10;l10;"), "5* came 1", "10* years 1", "text " + " ".repeat(150),
            "count 0 = 4", "count 1 = 4", "count 2 = 6", "count 3 = 10", "count 4 = 10", "count 5 = 5", "count 6 = 10", "count 7 = 150",
            "came 1 = FULL", "type 32 = FULL", "years 1 = 6", "count 5 = 5", "count 6 = 10", "count 7 = 150");
        Runs.run("30: as little as there may be", told("s1 1 1;t1 0 0 1;b1;l0;"), "count 0 = 1", "count 1 = 1", "count 2 = 1", "count 3 = 1", "count 4 = 0", "count 5 = 0", "count 6 = 0", "count 7 = 0");
    }

    private static void calls512() {
        Runs.run("at most 512 calls: the last one of them", told("s4 4 5555555555555555;t60 0 1 9;"), "461* stretches 0 1", "stretches 0 99 = 560", "undo = 9", "thing 0 1 = 461",
            "bestDig 16 1 = 80", "4* came 5", "came 5 = 5", "fits 4 = 1", "kept 5 0 = 0", "mark 2 0 = -401", "trace = 101", "years 99 = 0", "keep 1 = 99", "back 1 = 99", "undo = 9", "lasts 0 = 0");
    }

    private static void constants() {
        int[] got = {LastOchre.BAD, LastOchre.STATE, LastOchre.FULL, LastOchre.NONE, LastOchre.NO};
        String[] names = {"BAD", "STATE", "FULL", "NONE", "NO"};
        for (int i = 0; i < got.length; i++) {
            Runs.due("the constants: " + names[i], got[i], names[i]);
        }
    }
}
