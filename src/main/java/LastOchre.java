/** The last of the yellow: a seam, things that fade, and what comes of both. ../shared/DOC.md says what each call answers. */
public final class LastOchre {
    public static final int BAD = -1, STATE = -2, FULL = -3, NONE = -9;
    public static final int NO = -1000000;

    private static final int NOT_CALLED = -5;
    private static final int FAULT_BASE = -10;
    private static final int MOST_TEXT = 150;
    private static final int MOST_SIDE = 4;
    private static final int MOST_CELLS = 16;
    private static final int MOST_THINGS = 6;
    private static final int MOST_CAME = 5;
    private static final int MOST_IMAGES = 2;
    private static final int MOST_HELD = 999;
    private static final int MOST_YEAR = 999;
    private static final int MOST_AT_ONCE = 99;
    private static final int MOST_SELL_YEARS = 60;
    private static final int MOST_ODDS_YEARS = 8;
    private static final int BOUND_AT_FIRST = 5;
    private static final int LOSS_AT_FIRST = 3;

    private final Reader reader;
    private Told told;
    /** A text is read into this one, so that a FAULT leaves what was told as it was. */
    private Told draft;
    private final Course course;
    private final Course firstImage;
    private final Course secondImage;
    private final boolean[] imageKept;
    private final BestDigs bestDigs;
    private final Came heard;
    private long traced;

    public LastOchre() {
        reader = new Reader();
        told = new Told();
        draft = new Told();
        course = new Course();
        firstImage = new Course();
        secondImage = new Course();
        imageKept = new boolean[MOST_IMAGES];
        bestDigs = new BestDigs();
        heard = new Came();
        traced = 0;
    }

    // ---- the hill

    public int type(int c) {
        if (!within(c, 0, 255)) {
            return BAD;
        }
        return reader.add(c) ? reader.length : FULL;
    }

    public int clear() {
        int had = reader.length;
        reader.length = 0;
        return had;
    }

    public int hill() {
        int items = reader.readInto(draft);
        if (items < 0) {
            return items;
        }
        Told older = told;
        told = draft;
        draft = older;
        reader.length = 0;
        course.begin(told);
        heard.wipe();
        bestDigs.wipe();
        imageKept[0] = false;
        imageKept[1] = false;
        return items;
    }

    public int cell(int x, int y, int what) {
        if (!told.seam.holds(x, y)) {
            return BAD;
        }
        int bit = told.seam.bitOf(x, y);
        switch (what) {
            case 0:
                return told.seam.partsIn(bit);
            case 1:
                return oneIf((course.dug() & bit) != 0);
            case 2:
                return oneIf(canBeDugNow(bit));
            default:
                return BAD;
        }
    }

    public int thing(int t, int what) {
        if (!isThing(t)) {
            return BAD;
        }
        switch (what) {
            case 0:
                return course.yellow(t);
            case 1:
                return course.white(t);
            case 2:
                return told.fades[t];
            case 3:
                return told.worth[t];
            case 4:
                return oneIf(calledAfter(t, 0));
            default:
                return BAD;
        }
    }

    // ---- what is done

    public int digs(int x, int y) {
        if (!told.seam.holds(x, y)) {
            return BAD;
        }
        int bit = told.seam.bitOf(x, y);
        if (!canBeDugNow(bit)) {
            return STATE;
        }
        course.remember();
        course.setDug(course.dug() | bit);
        course.addStore(told.seam.partsIn(bit));
        return course.store();
    }

    public int scrapes(int t) {
        if (!isThing(t)) {
            return BAD;
        }
        if (course.yellow(t) == 0) {
            return STATE;
        }
        int gain = scrapedFrom(t);
        course.remember();
        course.addStore(gain);
        course.setYellow(t, 0);
        course.setWhite(t, 0);
        return gain;
    }

    public int paints(int t, int n) {
        if (!isThing(t) || !within(n, 1, MOST_AT_ONCE)) {
            return BAD;
        }
        if (course.store() < n) {
            return STATE;
        }
        if (course.yellow(t) + n > MOST_HELD) {
            return FULL;
        }
        course.remember();
        course.addStore(-n);
        course.setYellow(t, course.yellow(t) + n);
        return course.yellow(t);
    }

    public int stretches(int t, int n) {
        if (!isThing(t) || !within(n, 1, MOST_AT_ONCE)) {
            return BAD;
        }
        if (course.white(t) + n > MOST_HELD) {
            return FULL;
        }
        course.remember();
        course.setWhite(t, course.white(t) + n);
        return course.white(t);
    }

    public int years(int n) {
        if (!within(n, 1, MOST_AT_ONCE)) {
            return BAD;
        }
        if (course.year() + n > MOST_YEAR) {
            return STATE;
        }
        course.remember();
        for (int t = 0; t < told.things; t++) {
            course.setYellow(t, yellowAfter(t, n));
        }
        course.setYear(course.year() + n);
        return Integer.bitCount(calledSet());
    }

    public int undo() {
        if (course.known == 0) {
            return STATE;
        }
        course.stepBack();
        return course.known;
    }

    public int now(int what) {
        switch (what) {
            case 0:
                return course.year();
            case 1:
                return course.store();
            case 2:
                return course.dug();
            case 3:
                return calledSet();
            case 4:
                return worthOf(calledSet());
            case 5:
                return yellowOfAll();
            case 6:
                return told.seam.partsIn(told.seam.all & ~course.dug());
            default:
                return BAD;
        }
    }

    // ---- what comes

    public int lasts(int t) {
        return isThing(t) ? yearsCalled(t) : BAD;
    }

    public int first() {
        int best = NONE;
        int least = 0;
        for (int t = 0; t < told.things; t++) {
            int span = yearsCalled(t);
            if (span > 0 && (best == NONE || span < least)) {
                best = t;
                least = span;
            }
        }
        return best;
    }

    public int needs(int t, int n) {
        if (!isThing(t) || !within(n, 0, MOST_AT_ONCE)) {
            return BAD;
        }
        return paintFor(t, n);
    }

    public int kept(int n, int what) {
        if (!within(n, 0, MOST_AT_ONCE) || !within(what, 0, 2)) {
            return BAD;
        }
        int best = bestKept(n);
        switch (what) {
            case 0:
                return best;
            case 1:
                return worthOf(best);
            default:
                return leftOver(best, n);
        }
    }

    public int bestDig(int k, int what) {
        if (!within(k, 0, MOST_CELLS) || !within(what, 0, 1)) {
            return BAD;
        }
        bestDigs.lookFrom(told.seam, course.dug());
        int size = bestDigs.bestSize(k);
        return what == 0 ? bestDigs.sets[size] : bestDigs.sums[size];
    }

    public int far(int t) {
        if (!isThing(t)) {
            return BAD;
        }
        if (!calledAfter(t, 0)) {
            return NOT_CALLED;
        }
        int yellow = course.yellow(t);
        int mostWhite = quotient(10 * yellow, told.bound) - yellow;
        return Math.min(mostWhite, MOST_HELD) - course.white(t);
    }

    public int sell(int t, int n, int what) {
        if (!isThing(t) || !within(n, 0, MOST_SELL_YEARS) || !within(what, 0, 1)) {
            return BAD;
        }
        int bestYear = 0;
        int bestPrice = priceAfter(t, 0);
        for (int year = 1; year <= n; year++) {
            int price = priceAfter(t, year);
            if (price > bestPrice) {
                bestYear = year;
                bestPrice = price;
            }
        }
        return what == 0 ? bestYear : bestPrice;
    }

    public int spare(int t) {
        return isThing(t) ? canSpare(t) : BAD;
    }

    public int rich() {
        int best = NONE;
        int most = 0;
        for (int t = 0; t < told.things; t++) {
            if (canSpare(t) > most) {
                best = t;
                most = canSpare(t);
            }
        }
        return best;
    }

    public int odds(int t, int x, int n, int what) {
        if (!isThing(t) || !within(x, 0, 10) || !within(n, 0, MOST_ODDS_YEARS) || !within(what, 0, 1)) {
            return BAD;
        }
        int upper = calledAfter(t, n) ? power(10 - x, n) : 0;
        int lower = power(10, n);
        int common = commonDivisor(upper, lower);
        return quotient(what == 0 ? upper : lower, common);
    }

    // ---- what came

    public int came(int parts) {
        if (!within(parts, 0, 9)) {
            return BAD;
        }
        return heard.add(parts) ? heard.length : FULL;
    }

    public int forget() {
        int had = heard.length;
        heard.wipe();
        return had;
    }

    public int fits(int i) {
        if (!within(i, -2, MOST_CAME - 1)) {
            return BAD;
        }
        heard.lookFrom(told.seam, course.dug());
        if (i == -1) {
            return heard.found;
        }
        if (i == -2) {
            return heard.inEach;
        }
        if (heard.found == 0 || i >= heard.length) {
            return NONE;
        }
        return told.seam.pairOf(heard.firstRow[i]);
    }

    // ---- kinds, images

    public int mark(int kind, int t) {
        if (!isThing(t)) {
            return NO;
        }
        switch (kind) {
            case 0:
                return markThing(t);
            case 1:
                return markPainting(t);
            case 2:
                return markLemon(t);
            case 3:
                return markSun(t);
            case 4:
                return markButter(t);
            case 5:
                return markBee(t);
            default:
                return NO;
        }
    }

    public int keep(int image) {
        if (!within(image, 0, MOST_IMAGES - 1)) {
            return BAD;
        }
        imageOf(image).copyFrom(course);
        imageKept[image] = true;
        return course.year();
    }

    public int back(int image) {
        if (!within(image, 0, MOST_IMAGES - 1)) {
            return BAD;
        }
        if (!imageKept[image]) {
            return STATE;
        }
        course.copyFrom(imageOf(image));
        return course.year();
    }

    public int count(int what) {
        switch (what) {
            case 0:
                return told.seam.w;
            case 1:
                return told.seam.h;
            case 2:
                return told.things;
            case 3:
                return told.bound;
            case 4:
                return told.loss;
            case 5:
                return heard.length;
            case 6:
                return course.known;
            case 7:
                return reader.length;
            default:
                return BAD;
        }
    }

    public long trace() {
        return traced;
    }

    // ---- numbers

    private static boolean within(int number, int least, int most) {
        return number >= least && number <= most;
    }

    private static int oneIf(boolean holds) {
        return holds ? 1 : 0;
    }

    /** No divisor here is ever below 1; the test keeps the machine from throwing all the same. */
    private static int quotient(int number, int divisor) {
        return divisor > 0 ? number / divisor : 0;
    }

    private static int power(int base, int times) {
        int product = 1;
        for (int i = 0; i < times; i++) {
            product *= base;
        }
        return product;
    }

    private static int commonDivisor(int one, int other) {
        int a = one;
        int b = other;
        // Euclid's steps on ints are under 50
        for (int i = 0; i < 50 && b > 0; i++) {
            int rest = a % b;
            a = b;
            b = rest;
        }
        return a;
    }

    // ---- cells and things as they are now

    private boolean canBeDugNow(int bit) {
        return (told.seam.openFrom(course.dug()) & bit) != 0;
    }

    private boolean isThing(int t) {
        return within(t, 0, told.things - 1);
    }

    private boolean calledWith(int yellow, int white) {
        return yellow > 0 && 10 * yellow >= told.bound * (yellow + white);
    }

    private int yellowAfter(int t, int n) {
        return Math.max(0, course.yellow(t) - n * told.fades[t]);
    }

    private boolean calledAfter(int t, int n) {
        return calledWith(yellowAfter(t, n), course.white(t));
    }

    private int calledSet() {
        int set = 0;
        for (int t = 0; t < told.things; t++) {
            if (calledAfter(t, 0)) {
                set |= 1 << t;
            }
        }
        return set;
    }

    private int worthOf(int set) {
        int sum = 0;
        for (int t = 0; t < told.things; t++) {
            if ((set >> t & 1) != 0) {
                sum += told.worth[t];
            }
        }
        return sum;
    }

    private int yellowOfAll() {
        int sum = 0;
        for (int t = 0; t < told.things; t++) {
            sum += course.yellow(t);
        }
        return sum;
    }

    private int scrapedFrom(int t) {
        int yellow = course.yellow(t);
        return yellow - yellow * told.loss / 10;
    }

    // ---- what comes, of one thing

    /** The least YELLOW by which a THING with its WHITE is CALLED; NONE: by none. */
    private int leastYellow(int t) {
        int white = course.white(t);
        int yellowTenths = 10 - told.bound;
        if (yellowTenths == 0) {
            return white == 0 ? 1 : NONE;
        }
        int roundedUp = quotient(told.bound * white + yellowTenths - 1, yellowTenths);
        return Math.max(1, roundedUp);
    }

    private int yearsCalled(int t) {
        if (!calledAfter(t, 0)) {
            return 0;
        }
        if (told.fades[t] == 0) {
            return NONE;
        }
        return quotient(canSpare(t), told.fades[t]) + 1;
    }

    private int canSpare(int t) {
        return calledAfter(t, 0) ? course.yellow(t) - leastYellow(t) : 0;
    }

    private int paintFor(int t, int n) {
        int least = leastYellow(t);
        if (least == NONE) {
            return NONE;
        }
        int yellow = course.yellow(t);
        int paint = Math.max(0, least + n * told.fades[t] - yellow);
        return yellow + paint > MOST_HELD ? NONE : paint;
    }

    private int priceAfter(int t, int year) {
        if (!calledAfter(t, year)) {
            return 0;
        }
        int notCalled = 0;
        for (int other = 0; other < told.things; other++) {
            notCalled += oneIf(!calledAfter(other, year));
        }
        return told.worth[t] * (1 + notCalled);
    }

    // ---- what to keep

    /** What is over when a set is kept for n YEARS; below 0: there is not enough. */
    private int leftOver(int set, int n) {
        int over = course.store();
        for (int t = 0; t < told.things; t++) {
            if ((set >> t & 1) == 0) {
                over += scrapedFrom(t);
            } else {
                over -= paintFor(t, n);
            }
        }
        return over;
    }

    private boolean canBeKept(int set, int n) {
        for (int t = 0; t < told.things; t++) {
            if ((set >> t & 1) != 0 && paintFor(t, n) == NONE) {
                return false;
            }
        }
        return leftOver(set, n) >= 0;
    }

    private int bestKept(int n) {
        int best = 0;
        int bestWorth = 0;
        int sets = 1 << told.things;
        for (int set = 1; set < sets; set++) {
            if (worthOf(set) > bestWorth && canBeKept(set, n)) {
                best = set;
                bestWorth = worthOf(set);
            }
        }
        return best;
    }

    // ---- kinds: each body asks the one of the KIND above it

    private int markThing(int t) {
        traced += 1;
        return course.yellow(t);
    }

    private int markPainting(int t) {
        traced += 10;
        return markThing(t) + told.worth[t];
    }

    private int markLemon(int t) {
        traced += 100;
        return markThing(t) - course.white(t);
    }

    private int markSun(int t) {
        traced += 1000;
        return markPainting(t) * 2;
    }

    private int markButter(int t) {
        traced += 10000;
        return markLemon(t) + told.bound;
    }

    private int markBee(int t) {
        traced += 100000;
        return markThing(t) + course.year();
    }

    private Course imageOf(int image) {
        return image == 0 ? firstImage : secondImage;
    }

    /** The CELLS. A set of them is a number: bit W times Y and X is a CELL. */
    private static final class Seam {
        private int w;
        private int h;
        private final int[] parts = new int[MOST_CELLS];
        private int all;
        private int top;
        private int left;
        private int right;

        void shape(int newW, int newH) {
            w = newW;
            h = newH;
            for (int c = 0; c < MOST_CELLS; c++) {
                parts[c] = 0;
            }
            all = (1 << w * h) - 1;
            top = (1 << w) - 1;
            left = 0;
            right = 0;
            for (int y = 0; y < h; y++) {
                left |= bitOf(0, y);
                right |= bitOf(w - 1, y);
            }
        }

        int cells() {
            return w * h;
        }

        boolean holds(int x, int y) {
            return within(x, 0, w - 1) && within(y, 0, h - 1);
        }

        int bitOf(int x, int y) {
            return 1 << w * y + x;
        }

        int pairOf(int c) {
            int y = quotient(c, w);
            return 10 * (c - w * y) + y;
        }

        int partsIn(int set) {
            int sum = 0;
            for (int c = 0; c < MOST_CELLS; c++) {
                if ((set >> c & 1) != 0) {
                    sum += parts[c];
                }
            }
            return sum;
        }

        private int beside(int set) {
            // without the edges a shift by one would reach into the next row
            int sideways = (set & ~left) >> 1 | (set & ~right) << 1;
            return all & (set >> w | set << w | sideways);
        }

        int openFrom(int dug) {
            return all & ~dug & (top | beside(dug));
        }

        boolean canAllBeDug(int set, int dug) {
            int reached = set & openFrom(dug);
            for (int step = 0; step < MOST_CELLS; step++) {
                int wider = reached | set & beside(reached);
                if (wider == reached) {
                    break;
                }
                reached = wider;
            }
            return reached == set;
        }
    }

    /** What a text tells: CELLS, THINGS, BOUND and LOSS. */
    private static final class Told {
        private final Seam seam = new Seam();
        private boolean seamTold;
        private boolean boundTold;
        private boolean lossTold;
        private int bound = BOUND_AT_FIRST;
        private int loss = LOSS_AT_FIRST;
        private int things;
        private final int[] yellow = new int[MOST_THINGS];
        private final int[] white = new int[MOST_THINGS];
        private final int[] fades = new int[MOST_THINGS];
        private final int[] worth = new int[MOST_THINGS];

        void wipe() {
            seam.shape(0, 0);
            seamTold = false;
            boundTold = false;
            lossTold = false;
            bound = BOUND_AT_FIRST;
            loss = LOSS_AT_FIRST;
            things = 0;
        }
    }

    /** THE TEXT, and how it is read. A reading that fails leaves tokenStart at the FAULT. */
    private static final class Reader {
        private static final int UNREADABLE = -1;

        private final char[] bytes = new char[MOST_TEXT];
        private int length;
        private int place;
        private int tokenStart;

        boolean add(int c) {
            if (length >= MOST_TEXT) {
                return false;
            }
            bytes[length] = (char) c;
            length++;
            return true;
        }

        int readInto(Told target) {
            target.wipe();
            place = 0;
            int items = 0;
            // an ITEM has a byte at least
            for (int i = 0; i <= MOST_TEXT; i++) {
                findToken();
                if (tokenStart >= length) {
                    break;
                }
                if (!readItem(target)) {
                    return FAULT_BASE - tokenStart;
                }
                items++;
            }
            return items;
        }

        private boolean readItem(Told target) {
            switch (readLetter()) {
                case 's':
                    return readSeam(target);
                case 't':
                    return readThing(target);
                case 'b':
                    return readBound(target);
                case 'l':
                    return readLoss(target);
                default:
                    return false;
            }
        }

        private boolean readSeam(Told target) {
            if (target.seamTold) {
                return false;
            }
            int w = readNumber(1, MOST_SIDE);
            if (w == UNREADABLE) {
                return false;
            }
            int h = readNumber(1, MOST_SIDE);
            if (h == UNREADABLE) {
                return false;
            }
            target.seam.shape(w, h);
            target.seamTold = true;
            for (int c = 0; c < w * h; c++) {
                int figure = readFigure();
                if (figure == UNREADABLE) {
                    return false;
                }
                target.seam.parts[c] = figure;
            }
            return readEnd();
        }

        private boolean readThing(Told target) {
            int t = target.things;
            if (t >= MOST_THINGS) {
                return false;
            }
            target.yellow[t] = readNumber(0, 60);
            if (target.yellow[t] == UNREADABLE) {
                return false;
            }
            target.white[t] = readNumber(0, 60);
            if (target.white[t] == UNREADABLE) {
                return false;
            }
            target.fades[t] = readNumber(0, 9);
            if (target.fades[t] == UNREADABLE) {
                return false;
            }
            target.worth[t] = readNumber(0, 99);
            if (target.worth[t] == UNREADABLE) {
                return false;
            }
            target.things = t + 1;
            return readEnd();
        }

        private boolean readBound(Told target) {
            if (target.boundTold) {
                return false;
            }
            int number = readNumber(1, 10);
            if (number == UNREADABLE) {
                return false;
            }
            target.bound = number;
            target.boundTold = true;
            return readEnd();
        }

        private boolean readLoss(Told target) {
            if (target.lossTold) {
                return false;
            }
            int number = readNumber(0, 10);
            if (number == UNREADABLE) {
                return false;
            }
            target.loss = number;
            target.lossTold = true;
            return readEnd();
        }

        private void findToken() {
            while (place < length && bytes[place] == ' ') {
                place++;
            }
            tokenStart = place;
        }

        private boolean isDigitAt(int at) {
            return at < length && within(bytes[at], '0', '9');
        }

        private boolean isLetterAt(int at) {
            return at < length && within(bytes[at], 'a', 'z');
        }

        /** The one letter of a TOKEN; UNREADABLE, if it has more or is none of letters. */
        private int readLetter() {
            if (!isLetterAt(place) || isLetterAt(place + 1)) {
                return UNREADABLE;
            }
            place++;
            return bytes[tokenStart];
        }

        private int readFigure() {
            findToken();
            if (!isDigitAt(place)) {
                return UNREADABLE;
            }
            place++;
            return bytes[tokenStart] - '0';
        }

        private int readNumber(int least, int most) {
            findToken();
            while (place < length && isDigitAt(place)) {
                place++;
            }
            int digits = place - tokenStart;
            if (digits < 1 || digits > 2) {
                return UNREADABLE;
            }
            int number = bytes[tokenStart] - '0';
            if (digits == 2) {
                if (number == 0) {
                    return UNREADABLE;
                }
                number = 10 * number + bytes[tokenStart + 1] - '0';
            }
            return within(number, least, most) ? number : UNREADABLE;
        }

        private boolean readEnd() {
            findToken();
            if (place >= length || bytes[place] != ';') {
                return false;
            }
            place++;
            return true;
        }
    }

    /** NOW, and behind it, the latest first, how it was ahead of each deed that may be UNDONE. */
    private static final class Course {
        private static final int DUG_AT = 0;
        private static final int STORE_AT = 1;
        private static final int YEAR_AT = 2;
        private static final int YELLOW_AT = 3;
        private static final int WHITE_AT = YELLOW_AT + MOST_THINGS;
        private static final int ROW = WHITE_AT + MOST_THINGS;
        private static final int MOST_KNOWN = 10;

        private final int[] rows = new int[ROW * (MOST_KNOWN + 1)];
        private int known;

        void begin(Told start) {
            rows[DUG_AT] = 0;
            rows[STORE_AT] = 0;
            rows[YEAR_AT] = 0;
            for (int t = 0; t < start.things; t++) {
                setYellow(t, start.yellow[t]);
                setWhite(t, start.white[t]);
            }
            known = 0;
        }

        void remember() {
            System.arraycopy(rows, 0, rows, ROW, ROW * MOST_KNOWN);
            known = Math.min(known + 1, MOST_KNOWN);
        }

        void stepBack() {
            System.arraycopy(rows, ROW, rows, 0, ROW * MOST_KNOWN);
            known = Math.max(known - 1, 0);
        }

        void copyFrom(Course other) {
            System.arraycopy(other.rows, 0, rows, 0, ROW * (MOST_KNOWN + 1));
            known = other.known;
        }

        int dug() {
            return rows[DUG_AT];
        }

        int store() {
            return rows[STORE_AT];
        }

        int year() {
            return rows[YEAR_AT];
        }

        int yellow(int t) {
            return rows[YELLOW_AT + t];
        }

        int white(int t) {
            return rows[WHITE_AT + t];
        }

        void setDug(int set) {
            rows[DUG_AT] = set;
        }

        void addStore(int parts) {
            rows[STORE_AT] += parts;
        }

        void setYear(int year) {
            rows[YEAR_AT] = year;
        }

        void setYellow(int t, int parts) {
            rows[YELLOW_AT + t] = parts;
        }

        void setWhite(int t, int parts) {
            rows[WHITE_AT + t] = parts;
        }
    }

    /** For each size the best set of CELLS to dig; kept until other CELLS are DUG, as the search is dear. */
    private static final class BestDigs {
        private static final int NOT_LOOKED = -1;
        private static final int HALF = 8;

        private final int[] sets = new int[MOST_CELLS + 1];
        private final int[] sums = new int[MOST_CELLS + 1];
        private final int[] lowSums = new int[1 << HALF];
        private final int[] highSums = new int[1 << HALF];
        private int lookedFrom = NOT_LOOKED;

        void wipe() {
            lookedFrom = NOT_LOOKED;
        }

        void lookFrom(Seam seam, int dug) {
            if (lookedFrom == dug) {
                return;
            }
            lookedFrom = dug;
            addUp(seam.parts, 0, lowSums);
            addUp(seam.parts, HALF, highSums);
            for (int size = 0; size <= MOST_CELLS; size++) {
                sets[size] = 0;
                sums[size] = -1;
            }
            int free = seam.all & ~dug;
            int set = 0;
            for (int i = 0; i < 1 << MOST_CELLS; i++) {
                weigh(seam, dug, set);
                // the next greater set of free cells, 0 behind the last
                set = set - free & free;
                if (set == 0) {
                    break;
                }
            }
        }

        /** Of sets with as many PARTS the one of fewest CELLS wins, so a bigger size must be better. */
        int bestSize(int most) {
            int best = 0;
            for (int size = 1; size <= most && size <= MOST_CELLS; size++) {
                if (sums[size] > sums[best]) {
                    best = size;
                }
            }
            return best;
        }

        /** Sets come as their bits rise, so that the first of equal ones stays. */
        private void weigh(Seam seam, int dug, int set) {
            int size = Integer.bitCount(set);
            int sum = lowSums[set & 255] + highSums[set >> HALF & 255];
            if (size <= MOST_CELLS && sum > sums[size] && seam.canAllBeDug(set, dug)) {
                sums[size] = sum;
                sets[size] = set;
            }
        }

        private static void addUp(int[] parts, int from, int[] table) {
            table[0] = 0;
            for (int c = 0; c < HALF && from + c < parts.length; c++) {
                int bit = 1 << c;
                for (int set = 0; set < bit && bit + set < table.length; set++) {
                    table[bit + set] = table[set] + parts[from + c];
                }
            }
        }
    }

    /** What CAME, and the rows that fit it; kept until either it or the CELLS DUG are others. */
    private static final class Came {
        private static final int NOT_LOOKED = -1;

        private final int[] parts = new int[MOST_CAME];
        private int length;
        private final int[] path = new int[MOST_CAME];
        private final int[] firstRow = new int[MOST_CAME];
        private int found;
        private int inEach;
        private int lookedFrom = NOT_LOOKED;

        boolean add(int number) {
            if (length >= MOST_CAME) {
                return false;
            }
            parts[length] = number;
            length++;
            lookedFrom = NOT_LOOKED;
            return true;
        }

        void wipe() {
            length = 0;
            lookedFrom = NOT_LOOKED;
        }

        void lookFrom(Seam seam, int dug) {
            if (lookedFrom == dug) {
                return;
            }
            lookedFrom = dug;
            found = 0;
            inEach = 0;
            follow(seam, 0, dug, 0);
        }

        private void follow(Seam seam, int depth, int dug, int row) {
            if (depth >= length || depth >= MOST_CAME) {
                take(row);
                return;
            }
            int open = seam.openFrom(dug);
            for (int c = 0; c < seam.cells() && c < MOST_CELLS; c++) {
                int bit = 1 << c;
                if ((open & bit) != 0 && seam.parts[c] == parts[depth]) {
                    path[depth] = c;
                    follow(seam, depth + 1, dug | bit, row | bit);
                }
            }
        }

        private void take(int row) {
            if (found == 0) {
                inEach = row;
                System.arraycopy(path, 0, firstRow, 0, MOST_CAME);
            }
            inEach &= row;
            found++;
        }
    }
}
