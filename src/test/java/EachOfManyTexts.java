import java.util.ArrayDeque;
import java.util.Deque;
import java.util.List;
import java.util.Random;

/**
 * Texts put together from pieces, right and wrong ones, against a reading that knows at each place what can stand there; and a
 * THING of every YELLOW and WHITE under every BOUND, with what is foretold of it found by trying one number behind another.
 */
public final class EachOfManyTexts {
    private static final int TEXTS = 300000;
    private static final int MOST_BYTES = 150;
    private static final int LOSS = 3;
    private static final int[] SPANS = {0, 1, 2, 7, 50, 98, 99};
    private static final String[] RIGHT = {
        "s", "t", "b", "l", ";", ";", ";", " ", "  ", "1", "2", "4", "0", "5", "9", "10", "60", "99", "123", "s4 1 ",
        "s1 1 1;", "s2 2 1234;", "t1 2 3 4;", "t60 60 9 99;", "b5;", "b10;", "l0;", "l10;"};
    private static final String[] WRONG = {"x", "st", "bb", "A", "-", "\t", "\u00e9", "\0", "61", "11", "100", "00", "01", "s5 1 "};

    private static int wrong = 0;
    private static int asked = 0;

    public static void main(String[] args) {
        texts();
        for (int bound = 1; bound <= 10; bound++) {
            for (int yellow = 0; yellow <= 60; yellow++) {
                for (int white = 0; white <= 60; white++) {
                    // all that FADES for some, the least, a middle one and a great one for the others
                    for (int fades = 0; fades <= 9; fades += white % 7 == 0 ? 1 : 4) {
                        thing(yellow, white, fades, bound);
                    }
                }
            }
        }
        System.out.println(wrong == 0 ? asked + " answers are as due" : wrong + " answers are not as due");
        if (wrong != 0) {
            System.exit(1);
        }
    }

    private static void due(String text, String call, int got, int want) {
        asked++;
        if (got != want) {
            wrong++;
            if (wrong <= 40) {
                System.out.println("[" + text + "] " + call + " answered " + got + ", due is " + want);
            }
        }
    }

    private static LastOchre typed(String text) {
        LastOchre x = new LastOchre();
        for (int i = 0; i < text.length(); i++) {
            x.type(text.charAt(i));
        }
        return x;
    }

    // ---- texts

    private static void texts() {
        Random random = new Random(7);
        for (int i = 0; i < TEXTS; i++) {
            String text = text(random);
            LastOchre x = typed(text);
            int want = read(text);
            due(text, "hill()", x.hill(), want);
            due(text, "count(7)", x.count(7), want < 0 ? text.length() : 0);
        }
    }

    private static String text(Random random) {
        StringBuilder text = new StringBuilder();
        int pieces = random.nextInt(16);
        for (int i = 0; i < pieces; i++) {
            String[] from = random.nextInt(12) == 0 ? WRONG : RIGHT;
            text.append(from[random.nextInt(from.length)]);
            if (random.nextInt(3) == 0) {
                text.append(' ');
            }
        }
        text.setLength(Math.min(text.length(), MOST_BYTES));
        return text.toString();
    }

    private static final String FIGURE = "figure";
    private static final String WIDTH = "width";
    private static final String HEIGHT = "height";
    private static final String BOUND = "bound";
    private static final String END = ";";

    /** How many ITEMS, or -10 less the FAULT. What is wanted next is a word from above, or the most that a NUMBER from 0 on may be. */
    private static int read(String text) {
        Deque<String> wanted = new ArrayDeque<>();
        String seen = "";
        int width = 0;
        int items = 0;
        int at = 0;
        while (true) {
            while (at < text.length() && text.charAt(at) == ' ') {
                at++;
            }
            if (at == text.length()) {
                return wanted.isEmpty() ? items : -10 - at;
            }
            int from = at;
            String next = wanted.poll();
            if (next == null) {
                at = behind(text, from, 'a', 'z');
                String letters = text.substring(from, at);
                if (!begins(letters, seen, wanted)) {
                    return -10 - from;
                }
                seen += letters;
            } else if (next.equals(END)) {
                if (text.charAt(at) != ';') {
                    return -10 - from;
                }
                at++;
                items++;
            } else if (next.equals(FIGURE)) {
                if (behind(text, from, '0', '9') == from) {
                    return -10 - from;
                }
                at++;
            } else {
                at = behind(text, from, '0', '9');
                String figures = text.substring(from, at);
                if (!isNumber(figures, next)) {
                    return -10 - from;
                }
                width = next.equals(WIDTH) ? Integer.parseInt(figures) : width;
                for (int i = 0; next.equals(HEIGHT) && i < width * Integer.parseInt(figures); i++) {
                    wanted.addFirst(FIGURE);
                }
            }
        }
    }

    private static int behind(String text, int from, char least, char most) {
        int at = from;
        while (at < text.length() && text.charAt(at) >= least && text.charAt(at) <= most) {
            at++;
        }
        return at;
    }

    private static boolean begins(String letters, String seen, Deque<String> wanted) {
        if (letters.equals("t") && seen.replaceAll("[^t]", "").length() < 6) {
            return wanted.addAll(List.of("60", "60", "9", "99", END));
        }
        if (letters.equals("t") || letters.isEmpty() || seen.contains(letters)) {
            return false;
        }
        switch (letters) {
            case "s": return wanted.addAll(List.of(WIDTH, HEIGHT, END));
            case "b": return wanted.addAll(List.of(BOUND, END));
            case "l": return wanted.addAll(List.of("10", END));
            default: return false;
        }
    }

    private static boolean isNumber(String figures, String wanted) {
        if (figures.isEmpty() || figures.length() > 2 || figures.length() == 2 && figures.startsWith("0")) {
            return false;
        }
        int number = Integer.parseInt(figures);
        switch (wanted) {
            case WIDTH: case HEIGHT: return number >= 1 && number <= 4;
            case BOUND: return number >= 1 && number <= 10;
            default: return number <= Integer.parseInt(wanted);
        }
    }

    // ---- a thing alone

    private static boolean called(int yellow, int white, int bound) {
        return yellow > 0 && 10 * yellow >= bound * (yellow + white);
    }

    private static void thing(int yellow, int white, int fades, int bound) {
        String text = "t" + yellow + " " + white + " " + fades + " 7;b" + bound + ";";
        LastOchre x = typed(text);
        due(text, "hill()", x.hill(), 2);
        due(text, "thing(0, 4)", x.thing(0, 4), called(yellow, white, bound) ? 1 : 0);
        int lasts = lasts(yellow, white, fades, bound);
        due(text, "lasts(0)", x.lasts(0), lasts);
        due(text, "first()", x.first(), lasts > 0 ? 0 : LastOchre.NONE);
        int spare = spare(yellow, white, bound);
        due(text, "spare(0)", x.spare(0), spare);
        due(text, "rich()", x.rich(), spare > 0 ? 0 : LastOchre.NONE);
        due(text, "far(0)", x.far(0), far(yellow, white, bound));
        for (int n : SPANS) {
            int needs = needs(yellow, white, fades, bound, n);
            due(text, "needs(0, " + n + ")", x.needs(0, n), needs);
            due(text, "kept(" + n + ", 0)", x.kept(n, 0), needs == 0 ? 1 : 0);
            due(text, "kept(" + n + ", 1)", x.kept(n, 1), needs == 0 ? 7 : 0);
            due(text, "kept(" + n + ", 2)", x.kept(n, 2), needs == 0 ? 0 : yellow - yellow * LOSS / 10);
        }
    }

    private static int lasts(int yellow, int white, int fades, int bound) {
        for (int n = 0; n <= 60; n++) {
            if (!called(Math.max(0, yellow - n * fades), white, bound)) {
                return n;
            }
        }
        return LastOchre.NONE;
    }

    private static int spare(int yellow, int white, int bound) {
        int off = 0;
        while (called(yellow - off - 1, white, bound)) {
            off++;
        }
        return called(yellow, white, bound) ? off : 0;
    }

    private static int far(int yellow, int white, int bound) {
        int more = -5;
        for (int w = white; w <= 999 && called(yellow, w, bound); w++) {
            more = w - white;
        }
        return more;
    }

    private static int needs(int yellow, int white, int fades, int bound, int n) {
        for (int paint = 0; yellow + paint <= 999; paint++) {
            if (called(Math.max(0, yellow + paint - n * fades), white, bound)) {
                return paint;
            }
        }
        return LastOchre.NONE;
    }
}
