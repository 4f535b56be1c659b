import java.math.BigInteger;
import java.util.ArrayDeque;
import java.util.ArrayList;
import java.util.Arrays;
import java.util.Deque;
import java.util.HashSet;
import java.util.List;
import java.util.Random;
import java.util.Set;

/** Long runs of calls, drawn from fixed seeds, on the class and on a slow model that follows the document word by word. */
public final class SameAsPlainModel {
    private static final int RUNS = 500;
    private static final int CALLS = 512;

    private static int wrong = 0;

    public static void main(String[] args) {
        for (int seed = 1; seed <= RUNS && wrong < 20; seed++) {
            run(seed);
        }
        System.out.println(wrong == 0 ? "the class and the model agree" : wrong + " runs differ");
        if (wrong != 0) {
            System.exit(1);
        }
    }

    private static void run(int seed) {
        Random random = new Random(seed);
        LastOchre real = new LastOchre();
        Model model = new Model();
        List<String> told = new ArrayList<>();
        Deque<Integer> toType = new ArrayDeque<>();
        boolean big = seed % 25 == 0;
        for (int call = 0; call < CALLS; call++) {
            boolean empty = model.fades.isEmpty() && model.w == 0;
            if (toType.isEmpty() && (call == 0 || random.nextInt(empty ? 5 : 250) == 0)) {
                // ahead of a text nothing is left of what was typed by the way
                toType.add(CLEAR);
                for (char c : text(random, big).toCharArray()) {
                    toType.add((int) c);
                }
                toType.add(HILL);
            }
            String[] names = random.nextInt(100) == 0 ? TEXT_NAMES : NAMES;
            String name = toType.isEmpty() ? names[random.nextInt(names.length)] : null;
            int[] a = {number(random), number(random), number(random), number(random)};
            if (name == null) {
                int c = toType.remove();
                name = c == CLEAR ? "clear" : c == HILL ? "hill" : "type";
                a[0] = c;
            }
            shape(name, a, random, model);
            told.add(name + Arrays.toString(a));
            long got = ask(real, name, a);
            long want = ask(model, name, a);
            if (got != want) {
                wrong++;
                System.out.println("seed " + seed + " call " + call + " " + name + Arrays.toString(a)
                    + " answered " + got + ", the model " + want + " behind " + told);
                return;
            }
        }
    }

    private static final int CLEAR = -1;
    private static final int HILL = -2;
    private static final String[] TEXT_NAMES = {"type", "clear", "hill"};
    private static final String[] NAMES = {
        "cell", "cell", "thing", "thing", "digs", "digs", "digs", "digs", "scrapes", "paints", "paints",
        "stretches", "years", "undo", "undo", "now", "now", "lasts", "lasts", "first", "needs", "needs", "kept", "kept",
        "bestDig", "far", "far", "sell", "sell", "spare", "spare", "rich", "odds", "odds", "came", "came", "came", "forget",
        "fits", "fits", "fits", "mark", "mark", "keep", "back", "count", "trace"};

    /** Mostly numbers that the call takes, at times any other. */
    private static void shape(String name, int[] a, Random r, Model model) {
        if (r.nextInt(12) == 0) {
            return;
        }
        int t = r.nextInt(Math.max(1, model.fades.size()));
        switch (name) {
            case "cell": a[0] = r.nextInt(4); a[1] = r.nextInt(4); a[2] = r.nextInt(3); break;
            case "digs": a[0] = r.nextInt(Math.max(1, model.w)); a[1] = r.nextInt(Math.max(1, model.h)); break;
            case "thing": a[0] = t; a[1] = r.nextInt(5); break;
            case "scrapes": case "lasts": case "far": case "spare": a[0] = t; break;
            case "paints": a[0] = t; a[1] = 1 + r.nextInt(r.nextBoolean() ? 8 : 99); break;
            case "stretches": a[0] = t; a[1] = 1 + r.nextInt(r.nextBoolean() ? 8 : 99); break;
            case "years": a[0] = 1 + r.nextInt(r.nextInt(6) == 0 ? 99 : 2); break;
            case "now": a[0] = r.nextInt(7); break;
            case "needs": a[0] = t; a[1] = r.nextInt(100); break;
            case "kept": a[0] = r.nextInt(r.nextBoolean() ? 100 : 9); a[1] = r.nextInt(3); break;
            case "bestDig": a[0] = r.nextInt(17); a[1] = r.nextInt(2); break;
            case "sell": a[0] = t; a[1] = r.nextInt(61); a[2] = r.nextInt(2); break;
            case "odds": a[0] = t; a[1] = r.nextInt(11); a[2] = r.nextInt(9); a[3] = r.nextInt(2); break;
            case "came": a[0] = model.parts.isEmpty() ? r.nextInt(10) : model.parts.get(r.nextInt(model.parts.size())); break;
            case "fits": a[0] = r.nextInt(7) - 2; break;
            case "mark": a[0] = r.nextInt(6); a[1] = t; break;
            case "keep": case "back": a[0] = r.nextInt(2); break;
            case "count": a[0] = r.nextInt(8); break;
            default: break;
        }
    }

    private static int number(Random r) {
        switch (r.nextInt(8)) {
            case 0: return r.nextInt();
            case 1: return Integer.MIN_VALUE + r.nextInt(2);
            case 2: return Integer.MAX_VALUE - r.nextInt(2);
            case 3: return r.nextInt(300) - 50;
            default: return r.nextInt(20) - 4;
        }
    }

    private static String text(Random r, boolean big) {
        List<String> items = new ArrayList<>();
        if (r.nextInt(10) > 0) {
            items.add(seam(r, big));
        }
        int things = r.nextInt(16) == 0 ? 7 : r.nextInt(7);
        for (int i = 0; i < things; i++) {
            int most = r.nextBoolean() ? 61 : 12;
            items.add("t" + r.nextInt(most) + " " + r.nextInt(most) + " " + r.nextInt(r.nextBoolean() ? 10 : 2) + " " + r.nextInt(r.nextBoolean() ? 100 : 4));
        }
        if (r.nextInt(3) > 0) {
            items.add("b" + (1 + r.nextInt(10)));
        }
        if (r.nextInt(3) > 0) {
            items.add("l" + r.nextInt(11));
        }
        StringBuilder joined = new StringBuilder();
        while (!items.isEmpty()) {
            joined.append(items.remove(r.nextInt(items.size()))).append(r.nextInt(5) == 0 ? " ; " : ";");
        }
        int faults = r.nextInt(4) == 0 ? 1 + r.nextInt(2) : 0;
        for (int i = 0; i < faults && joined.length() > 0; i++) {
            int at = r.nextInt(joined.length());
            String any = "stbla;0123456789  x\t\u00ff";
            char c = any.charAt(r.nextInt(any.length()));
            switch (r.nextInt(4)) {
                case 0: joined.deleteCharAt(at); break;
                case 1: joined.insert(at, c); break;
                case 2: joined.setLength(at); break;
                default: joined.setCharAt(at, c); break;
            }
        }
        return joined.toString();
    }

    private static String seam(Random r, boolean big) {
        int w = big ? 4 : 1 + r.nextInt(4);
        int h = big ? 4 : 1 + r.nextInt(w == 4 ? 3 : 4);
        StringBuilder s = new StringBuilder("s" + w + " " + h + " ");
        int most = r.nextBoolean() ? 10 : 3;
        for (int i = 0; i < w * h; i++) {
            s.append(r.nextInt(most));
            if (r.nextInt(4) == 0) {
                s.append(' ');
            }
        }
        return s.toString();
    }

    private static long ask(LastOchre x, String name, int[] a) {
        switch (name) {
            case "type": return x.type(a[0]);
            case "clear": return x.clear();
            case "hill": return x.hill();
            case "cell": return x.cell(a[0], a[1], a[2]);
            case "thing": return x.thing(a[0], a[1]);
            case "digs": return x.digs(a[0], a[1]);
            case "scrapes": return x.scrapes(a[0]);
            case "paints": return x.paints(a[0], a[1]);
            case "stretches": return x.stretches(a[0], a[1]);
            case "years": return x.years(a[0]);
            case "undo": return x.undo();
            case "now": return x.now(a[0]);
            case "lasts": return x.lasts(a[0]);
            case "first": return x.first();
            case "needs": return x.needs(a[0], a[1]);
            case "kept": return x.kept(a[0], a[1]);
            case "bestDig": return x.bestDig(a[0], a[1]);
            case "far": return x.far(a[0]);
            case "sell": return x.sell(a[0], a[1], a[2]);
            case "spare": return x.spare(a[0]);
            case "rich": return x.rich();
            case "odds": return x.odds(a[0], a[1], a[2], a[3]);
            case "came": return x.came(a[0]);
            case "forget": return x.forget();
            case "fits": return x.fits(a[0]);
            case "mark": return x.mark(a[0], a[1]);
            case "keep": return x.keep(a[0]);
            case "back": return x.back(a[0]);
            case "count": return x.count(a[0]);
            default: return x.trace();
        }
    }

    private static long ask(Model x, String name, int[] a) {
        switch (name) {
            case "type": return x.type(a[0]);
            case "clear": { int had = x.text.length(); x.text = ""; return had; }
            case "hill": return x.hill();
            case "cell": return x.cell(a[0], a[1], a[2]);
            case "thing": return x.thing(a[0], a[1]);
            case "digs": return x.digs(a[0], a[1]);
            case "scrapes": return x.scrapes(a[0]);
            case "paints": return x.paints(a[0], a[1]);
            case "stretches": return x.stretches(a[0], a[1]);
            case "years": return x.years(a[0]);
            case "undo": return x.undo();
            case "now": return x.now(a[0]);
            case "lasts": return x.no(a[0]) ? -1 : x.lasts(a[0]);
            case "first": return x.first();
            case "needs": return x.no(a[0]) || a[1] < 0 || a[1] > 99 ? -1 : x.needs(a[0], a[1]);
            case "kept": return x.kept(a[0], a[1]);
            case "bestDig": return x.bestDig(a[0], a[1]);
            case "far": return x.far(a[0]);
            case "sell": return x.sell(a[0], a[1], a[2]);
            case "spare": return x.no(a[0]) ? -1 : x.spare(a[0]);
            case "rich": return x.rich();
            case "odds": return x.odds(a[0], a[1], a[2], a[3]);
            case "came": return x.came(a[0]);
            case "forget": { int had = x.came.size(); x.came.clear(); return had; }
            case "fits": return x.fits(a[0]);
            case "mark": return x.mark(a[0], a[1]);
            case "keep": return x.keep(a[0]);
            case "back": return x.back(a[0]);
            case "count": return x.count(a[0]);
            default: return x.trace;
        }
    }

    private static final class Fault extends RuntimeException {
        private static final long serialVersionUID = 1L;
        final int place;

        Fault(int place) {
            this.place = place;
        }
    }

    private record Token(int place, String word) { }

    private record State(Set<Integer> dug, int store, int year, List<Integer> yellow, List<Integer> white) {
        State copy() {
            return new State(new HashSet<>(dug), store, year, new ArrayList<>(yellow), new ArrayList<>(white));
        }
    }

    private record Image(State state, List<State> past) { }

    private static final class Model {
        String text = "";
        int w = 0;
        int h = 0;
        int bound = 5;
        int loss = 3;
        List<Integer> parts = new ArrayList<>();
        List<Integer> fades = new ArrayList<>();
        List<Integer> worth = new ArrayList<>();
        State now = new State(new HashSet<>(), 0, 0, new ArrayList<>(), new ArrayList<>());
        List<State> past = new ArrayList<>();
        Image[] images = new Image[2];
        List<Integer> came = new ArrayList<>();
        long trace = 0;

        boolean no(int t) {
            return t < 0 || t >= fades.size();
        }

        int type(int c) {
            if (c < 0 || c > 255) {
                return -1;
            }
            if (text.length() == 150) {
                return -3;
            }
            text += (char) c;
            return text.length();
        }

        // ---- the text: TOKENS are asked for one by one

        private int at;

        private Token token(boolean figure) {
            while (at < text.length() && text.charAt(at) == ' ') {
                at++;
            }
            int from = at;
            if (from == text.length()) {
                throw new Fault(from);
            }
            String rest = text.substring(from);
            String word = rest.replaceFirst("(?s)^([a-z]+|[0-9]+|;).*$", "$1");
            if (!word.matches("[a-z]+|[0-9]+|;")) {
                throw new Fault(from);
            }
            if (figure && word.matches("[0-9]+")) {
                word = word.substring(0, 1);
            }
            at += word.length();
            return new Token(from, word);
        }

        private int number(int least, int most) {
            Token token = token(false);
            if (!token.word.matches("0|[1-9][0-9]?")) {
                throw new Fault(token.place);
            }
            int number = Integer.parseInt(token.word);
            if (number < least || number > most) {
                throw new Fault(token.place);
            }
            return number;
        }

        int hill() {
            int newW = 0;
            int newH = 0;
            int newBound = 5;
            int newLoss = 3;
            List<Integer> newParts = new ArrayList<>();
            List<int[]> newThings = new ArrayList<>();
            String seen = "";
            int items = 0;
            at = 0;
            try {
                while (!text.substring(at).replace(" ", "").isEmpty()) {
                    Token token = token(false);
                    if (!token.word.matches("[stbl]") || !token.word.equals("t") && seen.contains(token.word) || token.word.equals("t") && newThings.size() == 6) {
                        throw new Fault(token.place);
                    }
                    seen += token.word;
                    switch (token.word) {
                        case "s":
                            newW = number(1, 4);
                            newH = number(1, 4);
                            for (int i = 0; i < newW * newH; i++) {
                                Token figure = token(true);
                                if (!figure.word.matches("[0-9]")) {
                                    throw new Fault(figure.place);
                                }
                                newParts.add(Integer.parseInt(figure.word));
                            }
                            break;
                        case "t":
                            newThings.add(new int[] {number(0, 60), number(0, 60), number(0, 9), number(0, 99)});
                            break;
                        case "b":
                            newBound = number(1, 10);
                            break;
                        default:
                            newLoss = number(0, 10);
                            break;
                    }
                    Token end = token(false);
                    if (!end.word.equals(";")) {
                        throw new Fault(end.place);
                    }
                    items++;
                }
            } catch (Fault fault) {
                return -10 - fault.place;
            }
            w = newW;
            h = newH;
            bound = newBound;
            loss = newLoss;
            parts = newParts;
            fades = new ArrayList<>();
            worth = new ArrayList<>();
            now = new State(new HashSet<>(), 0, 0, new ArrayList<>(), new ArrayList<>());
            for (int[] thing : newThings) {
                now.yellow.add(thing[0]);
                now.white.add(thing[1]);
                fades.add(thing[2]);
                worth.add(thing[3]);
            }
            past = new ArrayList<>();
            images = new Image[2];
            came = new ArrayList<>();
            text = "";
            return items;
        }

        // ---- as it is

        boolean noCell(int x, int y) {
            return x < 0 || y < 0 || x >= w || y >= h;
        }

        boolean canDig(int c, Set<Integer> dug) {
            if (dug.contains(c)) {
                return false;
            }
            int x = c % w;
            int y = c / w;
            return y == 0 || dug.contains(c - w) || dug.contains(c + w)
                || x > 0 && dug.contains(c - 1) || x + 1 < w && dug.contains(c + 1);
        }

        boolean called(int yellow, int white) {
            return yellow > 0 && 10 * yellow >= bound * (yellow + white);
        }

        boolean called(int t) {
            return called(now.yellow.get(t), now.white.get(t));
        }

        int faded(int yellow, int t, int n) {
            int left = yellow;
            for (int i = 0; i < n; i++) {
                left = Math.max(0, left - fades.get(t));
            }
            return left;
        }

        boolean calledIn(int t, int n) {
            return called(faded(now.yellow.get(t), t, n), now.white.get(t));
        }

        int scraped(int t) {
            int yellow = now.yellow.get(t);
            return yellow - (int) Math.floor(yellow * loss / 10.0);
        }

        int cell(int x, int y, int what) {
            if (noCell(x, y) || what < 0 || what > 2) {
                return -1;
            }
            int c = w * y + x;
            return what == 0 ? parts.get(c) : what == 1 ? (now.dug.contains(c) ? 1 : 0) : canDig(c, now.dug) ? 1 : 0;
        }

        int thing(int t, int what) {
            if (no(t) || what < 0 || what > 4) {
                return -1;
            }
            return new int[] {now.yellow.get(t), now.white.get(t), fades.get(t), worth.get(t), called(t) ? 1 : 0}[what];
        }

        void remember() {
            past.add(now.copy());
            if (past.size() > 10) {
                past.remove(0);
            }
        }

        int digs(int x, int y) {
            if (noCell(x, y)) {
                return -1;
            }
            int c = w * y + x;
            if (!canDig(c, now.dug)) {
                return -2;
            }
            remember();
            now.dug.add(c);
            now = new State(now.dug, now.store + parts.get(c), now.year, now.yellow, now.white);
            return now.store;
        }

        int scrapes(int t) {
            if (no(t)) {
                return -1;
            }
            if (now.yellow.get(t) == 0) {
                return -2;
            }
            int gain = scraped(t);
            remember();
            now.yellow.set(t, 0);
            now.white.set(t, 0);
            now = new State(now.dug, now.store + gain, now.year, now.yellow, now.white);
            return gain;
        }

        int paints(int t, int n) {
            if (no(t) || n < 1 || n > 99) {
                return -1;
            }
            if (now.store < n) {
                return -2;
            }
            if (now.yellow.get(t) + n > 999) {
                return -3;
            }
            remember();
            now.yellow.set(t, now.yellow.get(t) + n);
            now = new State(now.dug, now.store - n, now.year, now.yellow, now.white);
            return now.yellow.get(t);
        }

        int stretches(int t, int n) {
            if (no(t) || n < 1 || n > 99) {
                return -1;
            }
            if (now.white.get(t) + n > 999) {
                return -3;
            }
            remember();
            now.white.set(t, now.white.get(t) + n);
            return now.white.get(t);
        }

        int years(int n) {
            if (n < 1 || n > 99) {
                return -1;
            }
            if (now.year + n >= 1000) {
                return -2;
            }
            remember();
            int called = 0;
            for (int t = 0; t < fades.size(); t++) {
                now.yellow.set(t, faded(now.yellow.get(t), t, n));
                called += called(t) ? 1 : 0;
            }
            now = new State(now.dug, now.store, now.year + n, now.yellow, now.white);
            return called;
        }

        int undo() {
            if (past.isEmpty()) {
                return -2;
            }
            now = past.remove(past.size() - 1);
            return past.size();
        }

        int bits(Set<Integer> set) {
            int bits = 0;
            for (int c : set) {
                bits += 1 << c;
            }
            return bits;
        }

        int now(int what) {
            int called = 0;
            int calledWorth = 0;
            int yellow = 0;
            for (int t = 0; t < fades.size(); t++) {
                yellow += now.yellow.get(t);
                if (called(t)) {
                    called += 1 << t;
                    calledWorth += worth.get(t);
                }
            }
            int left = 0;
            for (int c = 0; c < w * h; c++) {
                left += now.dug.contains(c) ? 0 : parts.get(c);
            }
            int[] all = {now.year, now.store, bits(now.dug), called, calledWorth, yellow, left};
            return what < 0 || what > 6 ? -1 : all[what];
        }

        // ---- what comes

        int lasts(int t) {
            for (int n = 0; n <= 1000; n++) {
                if (!called(now.yellow.get(t) - Math.min(now.yellow.get(t), n * fades.get(t)), now.white.get(t))) {
                    return n;
                }
            }
            return -9;
        }

        int first() {
            int best = -9;
            for (int t = fades.size() - 1; t >= 0; t--) {
                if (lasts(t) > 0 && (best < 0 || lasts(t) <= lasts(best))) {
                    best = t;
                }
            }
            return best;
        }

        int needs(int t, int n) {
            for (int yellow = now.yellow.get(t); yellow <= 999; yellow++) {
                if (called(Math.max(0, yellow - n * fades.get(t)), now.white.get(t))) {
                    return yellow - now.yellow.get(t);
                }
            }
            return -9;
        }

        int kept(int n, int what) {
            if (n < 0 || n > 99 || what < 0 || what > 2) {
                return -1;
            }
            int[] best = {0, -1, 0};
            int[] needed = new int[fades.size()];
            for (int t = 0; t < fades.size(); t++) {
                needed[t] = needs(t, n);
            }
            for (int set = (1 << fades.size()) - 1; set >= 0; set--) {
                int have = now.store;
                int value = 0;
                boolean can = true;
                for (int t = 0; t < fades.size(); t++) {
                    boolean in = (set & 1 << t) != 0;
                    can &= !in || needed[t] >= 0;
                    have += in ? -needed[t] : scraped(t);
                    value += in ? worth.get(t) : 0;
                }
                if (can && have >= 0 && value >= best[1]) {
                    best = new int[] {set, value, have};
                }
            }
            return best[what];
        }

        /** Every set that can be dug one behind another, found by digging. */
        int bestDig(int k, int what) {
            if (k < 0 || k > 16 || what < 0 || what > 1) {
                return -1;
            }
            Set<Integer> layer = new HashSet<>();
            layer.add(0);
            int bestSet = 0;
            int bestParts = 0;
            for (int size = 1; size <= k; size++) {
                Set<Integer> next = new HashSet<>();
                for (int set : layer) {
                    Set<Integer> dug = new HashSet<>(now.dug);
                    for (int c = 0; c < w * h; c++) {
                        if ((set & 1 << c) != 0) {
                            dug.add(c);
                        }
                    }
                    for (int c = 0; c < w * h; c++) {
                        if (canDig(c, dug)) {
                            next.add(set | 1 << c);
                        }
                    }
                }
                int sizeSet = 0;
                int sizeParts = -1;
                for (int set : next) {
                    int sum = 0;
                    for (int c = 0; c < w * h; c++) {
                        sum += (set & 1 << c) != 0 ? parts.get(c) : 0;
                    }
                    if (sum > sizeParts || sum == sizeParts && set < sizeSet) {
                        sizeSet = set;
                        sizeParts = sum;
                    }
                }
                if (sizeParts > bestParts) {
                    bestSet = sizeSet;
                    bestParts = sizeParts;
                }
                layer = next;
            }
            return what == 0 ? bestSet : bestParts;
        }

        int far(int t) {
            if (no(t)) {
                return -1;
            }
            int more = -5;
            for (int white = now.white.get(t); white <= 999; white++) {
                if (called(now.yellow.get(t), white)) {
                    more = white - now.white.get(t);
                }
            }
            return more;
        }

        int sell(int t, int n, int what) {
            if (no(t) || n < 0 || n > 60 || what < 0 || what > 1) {
                return -1;
            }
            int[] best = {0, -1};
            for (int year = 0; year <= n; year++) {
                int price = 0;
                if (calledIn(t, year)) {
                    int times = 1;
                    for (int other = 0; other < fades.size(); other++) {
                        times += calledIn(other, year) ? 0 : 1;
                    }
                    price = worth.get(t) * times;
                }
                if (price > best[1]) {
                    best = new int[] {year, price};
                }
            }
            return best[what];
        }

        int spare(int t) {
            int most = 0;
            for (int off = 0; off <= now.yellow.get(t); off++) {
                if (called(t) && called(now.yellow.get(t) - off, now.white.get(t))) {
                    most = off;
                }
            }
            return most;
        }

        int rich() {
            int best = -9;
            for (int t = fades.size() - 1; t >= 0; t--) {
                if (spare(t) > 0 && (best < 0 || spare(t) >= spare(best))) {
                    best = t;
                }
            }
            return best;
        }

        int odds(int t, int x, int n, int what) {
            if (no(t) || x < 0 || x > 10 || n < 0 || n > 8 || what < 0 || what > 1) {
                return -1;
            }
            BigInteger upper = calledIn(t, n) ? BigInteger.valueOf(10 - x).pow(n) : BigInteger.ZERO;
            BigInteger lower = BigInteger.TEN.pow(n);
            BigInteger common = upper.gcd(lower);
            return (what == 0 ? upper : lower).divide(common).intValue();
        }

        // ---- what came

        int came(int number) {
            if (number < 0 || number > 9) {
                return -1;
            }
            if (came.size() == 5) {
                return -3;
            }
            came.add(number);
            return came.size();
        }

        List<List<Integer>> rows() {
            List<List<Integer>> rows = new ArrayList<>();
            rows.add(new ArrayList<>());
            for (int number : came) {
                List<List<Integer>> longer = new ArrayList<>();
                for (List<Integer> row : rows) {
                    Set<Integer> dug = new HashSet<>(now.dug);
                    dug.addAll(row);
                    for (int c = 0; c < w * h; c++) {
                        if (parts.get(c) == number && canDig(c, dug)) {
                            List<Integer> one = new ArrayList<>(row);
                            one.add(c);
                            longer.add(one);
                        }
                    }
                }
                rows = longer;
            }
            return rows;
        }

        int fits(int i) {
            if (i < -2 || i > 4) {
                return -1;
            }
            List<List<Integer>> rows = rows();
            if (i == -1) {
                return rows.size();
            }
            if (i == -2) {
                Set<Integer> each = new HashSet<>();
                for (int c = 0; c < w * h; c++) {
                    each.add(c);
                }
                for (List<Integer> row : rows) {
                    each.retainAll(row);
                }
                return rows.isEmpty() ? 0 : bits(each);
            }
            if (rows.isEmpty() || i >= came.size()) {
                return -9;
            }
            int c = rows.get(0).get(i);
            return 10 * (c % w) + c / w;
        }

        // ---- kinds, images

        int mark(int kind, int t) {
            if (kind < 0 || kind > 5 || no(t)) {
                return -1000000;
            }
            int yellow = now.yellow.get(t);
            int[] marks = {yellow, yellow + worth.get(t), yellow - now.white.get(t), 2 * (yellow + worth.get(t)),
                yellow - now.white.get(t) + bound, yellow + now.year};
            trace += new long[] {1, 11, 101, 1011, 10101, 100001}[kind];
            return marks[kind];
        }

        List<State> copies(List<State> states) {
            List<State> copies = new ArrayList<>();
            for (State state : states) {
                copies.add(state.copy());
            }
            return copies;
        }

        int keep(int image) {
            if (image < 0 || image > 1) {
                return -1;
            }
            images[image] = new Image(now.copy(), copies(past));
            return now.year;
        }

        int back(int image) {
            if (image < 0 || image > 1) {
                return -1;
            }
            if (images[image] == null) {
                return -2;
            }
            now = images[image].state.copy();
            past = copies(images[image].past);
            return now.year;
        }

        int count(int what) {
            int[] all = {w, h, fades.size(), bound, loss, came.size(), past.size(), text.length()};
            return what < 0 || what > 7 ? -1 : all[what];
        }
    }
}
