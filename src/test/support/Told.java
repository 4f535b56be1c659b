import java.util.ArrayList;
import java.util.List;

/** A new object whose calls are told as words, "digs 1 0", and counted: what it answers behind its 512th call is free. */
final class Told {
    private static final int MOST_CALLS = 512;
    private static final int STATE = -2;

    private final LastOchre object = new LastOchre();
    private int calls = 0;

    long ask(String call) {
        calls++;
        if (calls > MOST_CALLS) {
            throw new IllegalStateException("a test asks more than 512 calls: " + call);
        }
        String[] words = call.trim().split(" +");
        int[] a = new int[words.length - 1];
        for (int i = 0; i < a.length; i++) {
            a[i] = Integer.parseInt(words[i + 1]);
        }
        switch (a.length) {
            case 0: return askWithout(words[0]);
            case 1: return askOne(words[0], a[0]);
            case 2: return askTwo(words[0], a[0], a[1]);
            default: return askMore(words[0], a);
        }
    }

    private long askWithout(String name) {
        switch (name) {
            case "clear": return object.clear();
            case "hill": return object.hill();
            case "undo": return object.undo();
            case "first": return object.first();
            case "rich": return object.rich();
            case "forget": return object.forget();
            case "trace": return object.trace();
            default: throw new IllegalArgumentException(name);
        }
    }

    private long askOne(String name, int a) {
        switch (name) {
            case "type": return object.type(a);
            case "scrapes": return object.scrapes(a);
            case "years": return object.years(a);
            case "now": return object.now(a);
            case "lasts": return object.lasts(a);
            case "far": return object.far(a);
            case "spare": return object.spare(a);
            case "came": return object.came(a);
            case "fits": return object.fits(a);
            case "keep": return object.keep(a);
            case "back": return object.back(a);
            case "count": return object.count(a);
            default: throw new IllegalArgumentException(name);
        }
    }

    private long askTwo(String name, int a, int b) {
        switch (name) {
            case "thing": return object.thing(a, b);
            case "digs": return object.digs(a, b);
            case "paints": return object.paints(a, b);
            case "stretches": return object.stretches(a, b);
            case "needs": return object.needs(a, b);
            case "kept": return object.kept(a, b);
            case "bestDig": return object.bestDig(a, b);
            case "mark": return object.mark(a, b);
            default: throw new IllegalArgumentException(name);
        }
    }

    private long askMore(String name, int[] a) {
        if (name.equals("cell") && a.length == 3) {
            return object.cell(a[0], a[1], a[2]);
        }
        if (name.equals("sell") && a.length == 3) {
            return object.sell(a[0], a[1], a[2]);
        }
        if (name.equals("odds") && a.length == 4) {
            return object.odds(a[0], a[1], a[2], a[3]);
        }
        throw new IllegalArgumentException(name);
    }

    private long note(String call, List<String> seen) {
        long answer = ask(call);
        seen.add(call + " = " + answer);
        return answer;
    }

    /** What the calls that only read tell of it. */
    List<String> readings() {
        List<String> seen = new ArrayList<>();
        for (int what = 0; what <= 7; what++) {
            note("count " + what, seen);
        }
        noteNow(seen);
        note("trace", seen);
        note("first", seen);
        note("rich", seen);
        for (int what = 0; what <= 2; what++) {
            note("kept 3 " + what, seen);
        }
        for (int i = -2; i <= 4; i++) {
            note("fits " + i, seen);
        }
        note("bestDig 2 0", seen);
        note("bestDig 16 1", seen);
        noteCells(seen);
        noteThings(seen);
        return seen;
    }

    private void noteNow(List<String> seen) {
        for (int what = 0; what <= 6; what++) {
            note("now " + what, seen);
        }
    }

    private void noteCells(List<String> seen) {
        int w = (int) ask("count 0");
        int h = (int) ask("count 1");
        for (int c = 0; c < w * h; c++) {
            for (int what = 0; what <= 2; what++) {
                note("cell " + c % w + " " + c / w + " " + what, seen);
            }
        }
    }

    private void noteThings(List<String> seen) {
        long things = ask("count 2");
        for (int t = 0; t < things; t++) {
            for (int what = 0; what <= 4; what++) {
                note("thing " + t + " " + what, seen);
            }
            note("lasts " + t, seen);
            note("far " + t, seen);
            note("spare " + t, seen);
            note("needs " + t + " 9", seen);
            note("sell " + t + " 60 1", seen);
        }
    }

    /** All that may be UNDONE, and how it is behind each step back. */
    List<String> past() {
        List<String> seen = new ArrayList<>();
        long things = ask("count 2");
        for (int i = 0; i <= 12; i++) {
            if (note("undo", seen) == STATE) {
                break;
            }
            noteNow(seen);
            for (int t = 0; t < things; t++) {
                note("thing " + t + " 0", seen);
                note("thing " + t + " 1", seen);
            }
        }
        return seen;
    }

    /** What an IMAGE has. */
    List<String> image(int image) {
        List<String> seen = new ArrayList<>();
        note("back " + image, seen);
        seen.addAll(readings());
        seen.addAll(past());
        return seen;
    }

    /** What THE TEXT tells, and what is left of all the rest when it has been read. */
    List<String> textRead() {
        List<String> seen = new ArrayList<>();
        note("hill", seen);
        seen.addAll(readings());
        return seen;
    }
}
