/** Promises 1 to 4, and "Terms", 1: THE TEXT, what it may tell, and the place of its FAULT. */
public final class EdgesOfTheText {
    private static final String BLANKS = " ".repeat(150);

    /** Something of all that there is, so that a refused text would be seen to change it. */
    private static final String[] SCENE = Runs.steps(
        "text s3 2 123 940;t20 10 2 7;t9 9 1 4;b6;l2;", "hill = 5", "digs 1 0 = 2", "years 1 = 1", "keep 0 = 1",
        "stretches 0 2 = 12", "keep 1 = 1", "came 3 = 1", "mark 3 0 = 50");

    public static void main(String[] args) {
        newObject();
        bytes();
        mostBytes();
        clearing();
        nothingToRead();
        sides();
        figures();
        boundAndLoss();
        numbersOfAThing();
        sixThings();
        asMuchAsATextCanTell();
        blanks();
        endsOfItems();
        signsAtEachPlace();
        numbers();
        onceEach();
        endsTooEarly();
        firstFault();
        withoutCells();
        faultsChangeNothing();
        faultsMended();
        readAnew();
        smallerThanTheOneBefore();
        Runs.end();
    }

    private static void fault(String sentence, String text, int place) {
        Runs.run(sentence, "text " + text, "hill = " + (-10 - place), "count 7 = " + text.length(), "hill = " + (-10 - place));
    }

    private static void reads(String sentence, String text, int items, Object... more) {
        Runs.run(sentence, "text " + text, "hill = " + items, "count 7 = 0", Runs.steps(more));
    }

    private static void newObject() {
        Runs.run("1: no CELLS", "count 0 = 0", "count 1 = 0", "cell 0 0 0 = BAD", "digs 0 0 = BAD", "now 2 = 0", "now 6 = 0");
        Runs.run("1: no THINGS", "count 2 = 0", "thing 0 0 = BAD", "now 3 = 0", "now 4 = 0", "now 5 = 0");
        Runs.run("1: BOUND (5 at first)", "count 3 = 5");
        Runs.run("1: LOSS (3 at first)", "count 4 = 3");
        Runs.run("1: THE STORE (0 at first)", "now 1 = 0");
        Runs.run("1: the YEAR (0 at first)", "now 0 = 0");
        Runs.run("1: nothing CAME yet", "count 5 = 0", "forget = 0");
        Runs.run("1: nothing may be UNDONE yet", "count 6 = 0", "undo = STATE");
        Runs.run("1: THE TEXT is empty yet", "count 7 = 0", "clear = 0");
        Runs.run("1: no IMAGE was kept yet", "back 0 = STATE", "back 1 = STATE");
        Runs.run("1: nothing has come to THE TRACE yet", "trace = 0");
        Runs.run("1: BOUND is 5 where no text tells it", "text t5 5 0 0;t5 6 0 0;", "hill = 2", "count 3 = 5", "thing 0 4 = 1", "thing 1 4 = 0");
        Runs.run("1: LOSS is 3 where no text tells it", "text t10 0 0 0;", "hill = 1", "count 4 = 3", "scrapes 0 = 7");
    }

    private static void bytes() {
        Runs.run("2: a byte (0 .. 255)", "type 0 = 1", "type 255 = 2", "type 1 = 3", "type 254 = 4", "count 7 = 4");
        Runs.nothingChanges("2: a byte (0 .. 255): BAD", Runs.steps(SCENE, "text b7;"),
            "type -1 = BAD", "type 256 = BAD", "type -2147483648 = BAD", "type 2147483647 = BAD", "type -256 = BAD", "type 354 = BAD");
        Runs.nothingChanges("2: BAD, nothing typed yet", SCENE, "type -1 = BAD", "type 256 = BAD");
        for (int c = 0; c <= 255; c++) {
            Runs.run("2: each byte comes to THE TEXT", "type " + c + " = 1");
        }
    }

    private static void mostBytes() {
        String most = "text " + BLANKS.substring(0, 147) + "b7;";
        Runs.run("2: a text (150 bytes at most)", "text " + BLANKS.substring(0, 148), "type 32 = 149", "type 32 = 150", "type 32 = FULL", "count 7 = 150");
        Runs.nothingChanges("2: FULL", Runs.steps(SCENE, most), "type 32 = FULL", "type 0 = FULL", "type 255 = FULL");
        Runs.nothingChanges("2: BAD ahead of FULL", Runs.steps(SCENE, most), "type -1 = BAD", "type 256 = BAD");
        Runs.run("2: FULL no more, when it has been read", most, "hill = 1", "count 3 = 7", "type 98 = 1");
        Runs.run("2: FULL no more, when it is cleared", most, "clear = 150", "type 98 = 1");
        Runs.run("2: FULL yet behind a FAULT", "text " + BLANKS.substring(0, 149) + "b", "hill = -160", "type 49 = FULL");
        fault("4: the last byte of the longest text", BLANKS.substring(0, 149) + ";", 149);
        fault("4: the longest text ends too early", BLANKS.substring(0, 149) + "b", 150);
        fault("4: the longest text ends too early in a NUMBER", BLANKS.substring(0, 148) + "b1", 150);
        fault("4: the longest text ends too early in figures", BLANKS.substring(0, 144) + "s1 2 3", 150);
        fault("4: the longest text ends too early ahead of figures", BLANKS.substring(0, 145) + "s1 1 ", 150);
        fault("4: the longest text ends too early behind figures", BLANKS.substring(0, 144) + "s1 1 3", 150);
        reads("4: 150 blanks", BLANKS, 0);
    }

    private static void clearing() {
        Runs.run("3: how many bytes it had", "clear = 0", "type 98 = 1", "clear = 1", "clear = 0", "text " + BLANKS, "clear = 150", "clear = 0", "count 7 = 0");
        Runs.run("3: THE TEXT is empty", "text b7", "clear = 2", "text ;", "hill = -10");
        Runs.run("3: nothing is left of it behind a shorter one", "text b11;", "clear = 4", "text b1", "hill = -12");
        Runs.run("3: nothing is left of it behind letters", "text bb1;", "clear = 4", "text b", "hill = -11");
        Runs.run("3: nothing is left of it behind figures", "text s1 2 34;", "clear = 8", "text s1 2 3", "hill = -16", "clear = 6", "text s1 2 ", "hill = -15");
        Runs.run("3: nothing is left of it behind a NUMBER", "text b1;", "clear = 3", "text b1", "hill = -12");
        Runs.nothingChanges("3: nothing but THE TEXT changes", SCENE, "clear = 0");
        Runs.same("3: clear() and what was typed", SCENE, Runs.steps(SCENE, "text b7;", "clear = 3"));
    }

    private static void nothingToRead() {
        reads("4: an empty text tells no ITEM", "", 0, "count 0 = 0", "count 2 = 0", "count 3 = 5", "count 4 = 3");
        reads("4: a blank tells no ITEM", " ", 0);
        Runs.run("4: an empty text tells all, too", SCENE, "hill = 0", "count 0 = 0", "count 1 = 0", "count 2 = 0", "count 3 = 5", "count 4 = 3", "now 0 = 0");
    }

    private static void sides() {
        for (int w = 1; w <= 4; w++) {
            for (int h = 1; h <= 4; h++) {
                reads("4: W, H 1 .. 4", "s" + w + " " + h + " " + "7".repeat(w * h) + ";", 1, "count 0 = " + w, "count 1 = " + h,
                    "cell " + (w - 1) + " " + (h - 1) + " 0 = 7", "cell " + w + " 0 0 = BAD", "cell 0 " + h + " 0 = BAD", "now 6 = " + 7 * w * h);
            }
        }
        for (int side : new int[] {0, 5, 9, 10, 11, 44, 99}) {
            fault("4: W is 4 at most, 1 at least", "s" + side + " 1 1111;", 1);
            fault("4: H is 4 at most, 1 at least", "s1 " + side + " 1111;", 3);
            fault("4: H is 4 at most, 1 at least, of the widest", "s4 " + side + " 1111;", 3);
        }
        fault("4: W and H apart", "s22 1111;", 1);
        fault("4: W without H", "s2;", 2);
        fault("4: W without H, figures", "s2 1111;", 3);
        fault("4: neither W nor H", "s;", 1);
        fault("4: letters for W", "s b 1 1;", 2);
        fault("4: letters for H", "s1 b 1;", 3);
    }

    private static void figures() {
        reads("4: figures 0 .. 9", "s4 3 012345678999;", 1, "cell 0 0 0 = 0", "cell 1 2 0 = 9", "cell 1 0 0 = 1", "cell 0 2 0 = 8");
        reads("4: X rising, Y by Y", "s2 3 12 34 56;", 1, "cell 0 0 0 = 1", "cell 1 0 0 = 2", "cell 0 1 0 = 3", "cell 1 1 0 = 4", "cell 0 2 0 = 5", "cell 1 2 0 = 6");
        reads("4: figures side by side, a 0 ahead, too", "s2 2 0012;", 1, "cell 0 0 0 = 0", "cell 0 1 0 = 1", "cell 1 1 0 = 2");
        reads("4: blanks between them well", "s2 2  1  23   4 ;", 1, "cell 0 0 0 = 1", "cell 1 0 0 = 2", "cell 0 1 0 = 3", "cell 1 1 0 = 4");
        reads("4: a row need not end where a blank stands", "s3 2 1 234 56;", 1, "cell 0 1 0 = 4");
        fault("4: a figure that is missing", "s1 1;", 4);
        fault("4: a figure that is missing, of four", "s2 2 123;", 8);
        fault("4: a figure that is missing, of sixteen", "s4 4 123456789012345;", 20);
        fault("4: a figure that is missing, letters", "s2 1 1b;", 6);
        fault("4: a figure too many", "s1 1 12;", 6);
        fault("4: a figure too many behind a blank", "s1 1 1 2;", 7);
        fault("4: a figure too many, of sixteen", "s4 4 12345678901234567;", 21);
        fault("4: figures are one by one: not a NUMBER above 99", "s1 1 1234567;", 6);
        fault("4: the ; that is missing behind figures", "s1 1 1b5;", 6);
    }

    private static void boundAndLoss() {
        for (int n = 0; n <= 99; n++) {
            if (n >= 1 && n <= 10) {
                reads("4: BOUND (1 .. 10)", "b" + n + ";", 1, "count 3 = " + n, "count 4 = 3");
            } else {
                fault("4: BOUND (1 .. 10)", "b" + n + ";", 1);
            }
            if (n <= 10) {
                reads("4: LOSS (0 .. 10)", "l" + n + ";", 1, "count 4 = " + n, "count 3 = 5");
            } else {
                fault("4: LOSS (0 .. 10)", "l" + n + ";", 1);
            }
        }
        fault("4: no NUMBER of the bound", "b;", 1);
        fault("4: no NUMBER of the loss", "l ;", 2);
        fault("4: two NUMBERS of the bound", "b1 1;", 3);
        fault("4: two NUMBERS of the loss", "l1 0;", 3);
        fault("4: letters for the bound", "b b;", 2);
        fault("4: letters for the loss", "l l1;", 2);
    }

    private static void numbersOfAThing() {
        String[] names = {"YELLOW (0 .. 60 parts)", "WHITE (0 .. 60)", "FADES (0 .. 9 a year)", "WORTH (0 .. 99)"};
        int[] most = {60, 60, 9, 99};
        for (int field = 0; field < 4; field++) {
            for (int n = 0; n <= 101; n++) {
                String text = "t" + "1 ".repeat(field) + n + " 1".repeat(3 - field) + ";";
                if (n <= most[field]) {
                    reads("4: " + names[field], text, 1, "thing 0 " + field + " = " + n, "thing 0 " + (field + 1) % 4 + " = 1");
                } else {
                    fault("4: " + names[field], text, 1 + 2 * field);
                }
            }
            fault("4: " + names[field] + " is missing", "t" + "1 ".repeat(field) + ";", 1 + 2 * field);
            fault("4: " + names[field] + " is letters", "t" + "1 ".repeat(field) + (field == 0 ? " " : "") + "b" + " 1".repeat(3 - field) + ";", field == 0 ? 2 : 1 + 2 * field);
        }
        fault("4: a fifth NUMBER", "t1 1 1 1 1;", 9);
        reads("4: the least of a THING", "t0 0 0 0;", 1, "thing 0 0 = 0", "thing 0 1 = 0", "thing 0 2 = 0", "thing 0 3 = 0", "thing 0 4 = 0");
        reads("4: the most of a THING", "t60 60 9 99;", 1, "thing 0 0 = 60", "thing 0 1 = 60", "thing 0 2 = 9", "thing 0 3 = 99", "thing 0 4 = 1");
    }

    private static void sixThings() {
        String six = "t1 0 0 1;".repeat(6);
        reads("4: THINGS (6 at most)", six, 6, "count 2 = 6", "thing 5 0 = 1", "thing 6 0 = BAD");
        for (int n = 0; n <= 6; n++) {
            reads("4: THINGS 0 ..", "t1 0 0 1;".repeat(n), n, "count 2 = " + n, "thing " + n + " 0 = BAD", "now 3 = " + ((1 << n) - 1));
        }
        fault("4: a seventh thing", six + "t1 0 0 1;", 54);
        fault("4: a seventh thing, behind another ITEM", six + "b5; t1 0 0 1;", 58);
        fault("4: a seventh thing ahead of what it lacks", six + "t", 54);
        fault("4: a seventh thing ahead of what is wrong in it", six + "t61 0 0 0;", 54);
        fault("4: letters behind six things", six + "tt", 54);
        reads("4: other ITEMS behind six things", six + "b1;l0;s1 1 0;", 9);
    }

    private static void asMuchAsATextCanTell() {
        String all = "s4 4 9876543210123456;" + "t60 60 9 99;".repeat(6) + "b10;l10;";
        reads("4: as much as a text can tell", all, 9, "count 0 = 4", "count 1 = 4", "count 2 = 6", "count 3 = 10", "count 4 = 10",
            "thing 5 3 = 99", "cell 3 3 0 = 6", "cell 0 0 0 = 9");
        reads("4: as much as a text can tell, 150 bytes long", all + BLANKS.substring(0, 150 - all.length()), 9, "cell 3 3 0 = 6");
        reads("4: ITEMS in any order", "l1;t1 2 3 4;b2;t5 6 7 8;s1 1 9;", 5, "count 4 = 1", "count 3 = 2", "thing 0 0 = 1", "thing 1 0 = 5", "cell 0 0 0 = 9");
    }

    private static void blanks() {
        reads("4: blanks (32) between TOKENS", "  s  2  1  3  4  ;  t  1  2  3  4  ;  b  6  ;  l  7  ;  ", 4, "cell 1 0 0 = 4", "thing 0 3 = 4", "count 3 = 6", "count 4 = 7");
        reads("4: no blank where none is needed", "s2 1 34;t1 2 3 4;b6;l7;", 4, "cell 1 0 0 = 4", "thing 0 3 = 4", "count 3 = 6", "count 4 = 7");
        fault("4: a blank parts a NUMBER", "b1 0;", 3);
        fault("4: a blank parts letters", "b b;", 2);
        for (char c : new char[] {0, 9, 10, 11, 12, 13, 31, 33, 127, 133, 160, 255}) {
            fault("4: no other byte is a blank", "b" + c + "5;", 1);
            fault("4: no other byte is a blank, ahead of all", c + "b5;", 0);
            fault("4: no other byte is a blank, behind all", "b5;" + c, 3);
            fault("4: no other byte is a blank, between figures", "s2 1 1" + c + "2;", 6);
        }
    }

    private static void endsOfItems() {
        fault("4: ended by ;", "b5", 2);
        fault("4: ended by ; ahead of the next", "b5 l3;", 3);
        fault("4: ended by ; ahead of the next, no blank", "b5l3;", 2);
        fault("4: ended by ; once", "b5;;", 3);
        fault("4: ended by ; once, behind a blank", "b5; ;", 4);
        fault("4: a ; alone", ";", 0);
        fault("4: a ; ahead of all", ";b5;", 0);
        fault("4: ended by ; a thing", "t1 2 3 4t1 2 3 4;", 8);
        fault("4: ended by ; the loss", "l3b5;", 2);
        fault("4: a NUMBER alone", "5;", 0);
    }

    private static boolean letter(int c) {
        return c >= 'a' && c <= 'z';
    }

    private static boolean figure(int c) {
        return c >= '0' && c <= '9';
    }

    /** Every byte at a place where only some can stand: which of them is a TOKEN, goes on with one, or begins none. */
    private static void signsAtEachPlace() {
        for (int c = 0; c <= 255; c++) {
            String s = String.valueOf((char) c);
            int alone = c == ' ' ? 0 : "stbl".indexOf(c) >= 0 ? -11 : -10;
            Runs.run("4: a byte alone: letters that begin no ITEM, a byte that begins none", "text " + s, "hill = " + alone);
            int ahead = c == ' ' ? 1 : -10;
            Runs.run("4: a byte ahead of letters", "text " + s + "b7;", "hill = " + ahead);
            int behindLetter = letter(c) ? -10 : c == ' ' || figure(c) && c != '0' ? -12 : -11;
            Runs.run("4: a byte behind letters", "text b" + s, "hill = " + behindLetter);
            int behindNumber = c == ';' ? 1 : c == ' ' || c == '0' ? -13 : figure(c) ? -11 : -12;
            Runs.run("4: a byte behind a NUMBER", "text b1" + s, "hill = " + behindNumber);
            int asFigure = c == ' ' || figure(c) ? -16 : -15;
            Runs.run("4: a byte for a figure", "text s1 1 " + s, "hill = " + asFigure);
            int behindFigure = c == ';' ? 1 : c == ' ' ? -17 : -16;
            Runs.run("4: a byte behind the last figure", "text s1 1 5" + s, "hill = " + behindFigure);
            int behindItem = c == ' ' ? 1 : "stl".indexOf(c) >= 0 ? -14 : -13;
            Runs.run("4: a byte behind an ITEM", "text b1;" + s, "hill = " + behindItem);
        }
        fault("4: letters side by side are one TOKEN", "bl5;", 0);
        fault("4: letters side by side, the same twice", "ss1 1 1;", 0);
        fault("4: letters side by side, behind an ITEM", "b5; tb1 2 3 4;", 4);
    }

    private static void numbers() {
        String[] above = {"100", "101", "109", "110", "999", "1000", "4294967297", "4294967301", "65541", "18446744073709551621", "1" + "0".repeat(99)};
        for (String number : above) {
            fault("4: a NUMBER above 99, of the bound", "b" + number + ";", 1);
            fault("4: a NUMBER above 99, of the loss", "l " + number + ";", 2);
            fault("4: a NUMBER above 99, of W", "s" + number + " 1 1;", 1);
            fault("4: a NUMBER above 99, of H", "s1 " + number + " 1;", 3);
            fault("4: a NUMBER above 99, of WORTH", "t1 1 1 " + number + ";", 7);
            fault("4: a NUMBER above 99 where none can stand", "b5;" + number, 3);
        }
        for (String number : new String[] {"00", "01", "05", "09", "010", "000", "0000000005"}) {
            fault("4: a NUMBER with a 0 ahead of others, of the bound", "b" + number + ";", 1);
            fault("4: a NUMBER with a 0 ahead of others, of the loss", "l" + number + ";", 1);
            fault("4: a NUMBER with a 0 ahead of others, of W", "s" + number + " 1 1;", 1);
            fault("4: a NUMBER with a 0 ahead of others, of H", "s1 " + number + " 1;", 3);
            fault("4: a NUMBER with a 0 ahead of others, of YELLOW", "t" + number + " 1 1 1;", 1);
            fault("4: a NUMBER with a 0 ahead of others, of WHITE", "t1 " + number + " 1 1;", 3);
            fault("4: a NUMBER with a 0 ahead of others, of FADES", "t1 1 " + number + " 1;", 5);
            fault("4: a NUMBER with a 0 ahead of others, of WORTH", "t1 1 1 " + number + ";", 7);
        }
        reads("4: a 0 alone is a NUMBER", "l0;t0 0 0 0;", 2);
        reads("4: a 0 behind others", "l10;t10 20 0 90;b10;", 3, "thing 0 3 = 90");
        fault("4: no sign ahead of a NUMBER", "l-1;", 1);
        fault("4: no sign ahead of a NUMBER", "l+1;", 1);
    }

    private static void onceEach() {
        fault("4: s again", "s1 1 1;s1 1 1;", 7);
        fault("4: b again", "b5;b5;", 3);
        fault("4: l again", "l3;l3;", 3);
        fault("4: s again, behind others", "s1 1 1;b5;l3;t1 1 1 1; s2 1 11;", 23);
        fault("4: b again, behind others", "b5;l3;t1 1 1 1; b4;", 16);
        fault("4: l again, behind others", "l3;b5;t1 1 1 1; l4;", 16);
        fault("4: s again, ahead of what it lacks", "s1 1 1;s", 7);
        fault("4: b again, ahead of what it lacks", "b5;b", 3);
        fault("4: l again, ahead of what it lacks", "l3;l", 3);
        fault("4: s again, ahead of what is wrong in it", "s1 1 1;s9 1 1;", 7);
        fault("4: b again, ahead of what is wrong in it", "b5;b0;", 3);
        fault("4: l again, ahead of what is wrong in it", "l3;l11;", 3);
        Runs.run("4: once each in one text, not in two", "text s1 1 1;b6;l4;", "hill = 3", "text s1 1 2;b7;l5;", "hill = 3", "count 3 = 7", "count 4 = 5", "cell 0 0 0 = 2");
        Runs.run("4: once each, a refused text does not count", "text s1 1 1;b6;l4;l4;", "hill = -23", "clear = 16", "text s1 1 2;b7;l5;", "hill = 3");
    }

    private static void endsTooEarly() {
        String text = " s2 2 12 34; t60 6 9 99 ;b10;l0; t1 2 3 4;";
        for (int length = 0; length <= text.length(); length++) {
            String part = text.substring(0, length);
            int items = part.length() - part.replace(";", "").length();
            boolean whole = part.isBlank() || part.trim().endsWith(";");
            Runs.run("4: the text's length, if it ends too early", "text " + part, "hill = " + (whole ? items : -10 - length));
        }
        fault("4: the text's length, blanks at the end, too", "b5  ", 4);
        fault("4: the text's length, letters at the end", "b5;t", 4);
    }

    private static void firstFault() {
        fault("4: the first TOKEN that can't stand there", "b0;l11;", 1);
        fault("4: the first of two in one ITEM", "t0 61 10 0;", 3);
        fault("4: the first, ahead of a byte that begins none", "b0;!", 1);
        fault("4: the first, ahead of a NUMBER above 99", "x;b100;", 0);
        fault("4: the first, ahead of the end", "b11", 1);
        fault("4: a byte that begins none, ahead of a TOKEN that can't stand there", "b!0;", 1);
        fault("4: a FAULT in the last of many ITEMS", "s1 1 1;t1 1 1 1;b5;l11;", 20);
    }

    private static void withoutCells() {
        reads("4: without s there are no CELLS", "t1 0 0 1;b5;", 2, "count 0 = 0", "count 1 = 0", "cell 0 0 0 = BAD", "digs 0 0 = BAD",
            "now 2 = 0", "now 6 = 0", "bestDig 16 0 = 0", "bestDig 16 1 = 0", "fits -1 = 1", "came 0 = 1", "fits -1 = 0", "fits -2 = 0", "fits 0 = NONE");
        Runs.run("4: without s there are no CELLS any more", SCENE, "text t1 0 0 1;", "hill = 1", "count 0 = 0", "count 1 = 0", "cell 0 0 0 = BAD", "digs 0 0 = BAD", "now 6 = 0", "bestDig 16 1 = 0");
        reads("4: without t there are no THINGS", "s1 1 1;", 1, "count 2 = 0", "thing 0 0 = BAD", "now 3 = 0");
    }

    private static void faultsChangeNothing() {
        String[] texts = {"x", ";", "b", "b5", "b0;", "l11;", "s5 1 1;", "s1 5 1;", "s1 1;", "s4 4 1111 1111 1111 111;", "s1 1 1;t60 60 9 99;b1;l10;!",
            "s1 1 1;s", "b5;b", "l3;l", "t61 0 0 0;", "t60 60 9 100;", "t1 0 0 1;t1 0 0 1;t1 0 0 1;t1 0 0 1;t1 0 0 1;t1 0 0 1;t"};
        int[] places = {0, 0, 1, 2, 1, 1, 1, 3, 4, 23, 26, 7, 3, 3, 1, 9, 54};
        for (int i = 0; i < texts.length; i++) {
            String[] before = Runs.steps(SCENE, "text " + texts[i]);
            Runs.nothingChanges("4: -10 less FAULT: nothing changes", before, "hill = " + (-10 - places[i]));
        }
        Runs.run("4: -10 less FAULT, of a new object", "text s1 1 1;t1 1 1 1;b6;l4;x", "hill = -32", "count 0 = 0", "count 1 = 0", "count 2 = 0", "count 3 = 5", "count 4 = 3", "count 7 = 23");
    }

    private static void faultsMended() {
        Runs.run("4: nothing changes, THE TEXT neither: it can go on", "text b7", "hill = -12", "type 59 = 3", "hill = 1", "count 3 = 7", "count 7 = 0");
        Runs.run("4: and is empty then", "text b7;", "hill = 1", "count 7 = 0", "text ;", "hill = -10");
        Runs.run("4: and is empty then, nothing is left of it", "text b77;", "hill = -11", "clear = 4", "text b7;", "hill = 1", "text b1", "hill = -12");
    }

    private static void readAnew() {
        String[] anew = Runs.steps(SCENE, "text s2 1 34;t9 0 1 5;", "hill = 2");
        Runs.run("4: read anew: as told", anew, "count 0 = 2", "count 1 = 1", "count 2 = 1", "cell 0 0 0 = 3", "thing 0 0 = 9", "thing 0 1 = 0", "thing 1 0 = BAD");
        Runs.run("4: read anew: nothing DUG", anew, "now 2 = 0", "cell 1 0 1 = 0", "cell 1 0 2 = 1", "now 6 = 7");
        Runs.run("4: read anew: THE STORE empty", anew, "now 1 = 0", "paints 0 1 = STATE");
        Runs.run("4: read anew: YEAR 0", anew, "now 0 = 0", "mark 5 0 = 9");
        Runs.run("4: read anew: nothing that CAME", anew, "count 5 = 0", "fits -1 = 1", "fits 0 = NONE", "forget = 0");
        Runs.run("4: read anew: nothing to be UNDONE", anew, "count 6 = 0", "undo = STATE");
        Runs.run("4: read anew: IMAGES are gone", anew, "back 0 = STATE", "back 1 = STATE");
        Runs.run("4: read anew: BOUND and LOSS are as at first where the text tells none", anew, "count 3 = 5", "count 4 = 3");
        Runs.run("4: read anew: THE TRACE is not among what is gone", anew, "trace = 1011");
        Runs.same("4: read anew: all else as if it were the first text", Runs.steps("text t20 0 0 0;", "hill = 1", "mark 3 0 = 40", "text s2 1 34;t9 0 1 5;", "hill = 2"), anew);
        Runs.run("4: read anew: the same text", "text s1 1 5;", "hill = 1", "digs 0 0 = 5", "bestDig 1 1 = 0", "text s1 1 5;", "hill = 1", "digs 0 0 = 5");
        Runs.run("4: read anew: what is foretold of other CELLS", "text s2 1 52;", "hill = 1", "bestDig 1 0 = 1", "fits -1 = 1", "came 2 = 1", "fits 0 = 10",
            "text s2 1 26;", "hill = 1", "bestDig 1 0 = 2", "bestDig 1 1 = 6", "fits 0 = NONE", "came 2 = 1", "fits 0 = 0");
    }

    private static void smallerThanTheOneBefore() {
        String big = "text s4 4 9999 9999 9999 9999;" + "t9 9 9 9;".repeat(6) + "b9;l9;";
        Runs.run("4: nothing is left of a bigger text", big, "hill = 9", "text s1 1 5;t1 0 0 1;", "hill = 2", "now 6 = 5", "now 5 = 1", "now 4 = 1", "now 3 = 1",
            "cell 1 0 0 = BAD", "cell 0 1 0 = BAD", "thing 1 0 = BAD", "bestDig 16 0 = 1", "bestDig 16 1 = 5", "kept 0 0 = 1", "rich = NONE", "first = NONE", "years 1 = 1");
        Runs.run("4: nothing is left of a bigger text two texts ago", big, "hill = 9", "text b5;", "hill = 1", "text s2 1 12;t1 0 0 1;", "hill = 2", "now 6 = 3", "bestDig 16 0 = 3", "now 5 = 1");
        String narrow = "text s2 4 11111111;";
        String wide = "text s4 2 11111111;";
        Runs.run("4: nothing is left of a narrower text two texts ago", narrow, "hill = 1", "hill = 0", wide, "hill = 1", "digs 2 0 = 1", "digs 2 1 = 2", "cell 1 1 2 = 1", "cell 3 1 2 = 1", "digs 1 1 = 3", "cell 0 1 2 = 1");
        Runs.run("4: nothing is left of a narrower text two texts ago", narrow, "hill = 1", "hill = 0", wide, "hill = 1", "digs 1 0 = 1", "digs 1 1 = 2", "cell 2 1 2 = 1", "cell 0 1 2 = 1");
        Runs.run("4: nothing is left of a wider text two texts ago", wide, "hill = 1", "hill = 0", narrow, "hill = 1", "digs 0 0 = 1", "digs 0 1 = 2", "digs 0 2 = 3", "digs 0 3 = 4", "cell 1 3 2 = 1", "cell 1 1 2 = 1");
        Runs.run("4: nothing is left of a wider text two texts ago", wide, "hill = 1", "hill = 0", narrow, "hill = 1", "digs 1 0 = 1", "digs 1 1 = 2", "digs 1 2 = 3", "digs 1 3 = 4", "cell 0 3 2 = 1", "cell 0 2 2 = 1");
        Runs.run("4: nothing is left of a refused bigger text", big, "type 59 = 86", "hill = -95", "clear = 86", "text s2 1 12;t1 0 0 1;", "hill = 2", "now 6 = 3", "count 3 = 5", "count 4 = 3",
            "bestDig 16 0 = 3", "now 5 = 1", "count 2 = 1");
    }
}
