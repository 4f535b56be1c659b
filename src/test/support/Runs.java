import java.util.ArrayList;
import java.util.Arrays;
import java.util.List;

/**
 * Runs of calls on new objects. A step is a call and, behind =, the answer that is due: "digs 1 0 = 2"; "9* years 99 = 0" is
 * nine calls; "text b5;" types what stands behind the one blank. What is not as due is printed with the sentence that it breaks.
 */
final class Runs {
    private static final List<String> NAMES = List.of("BAD", "STATE", "FULL", "NONE", "NO");
    private static final long[] NUMBERS = {-1, -2, -3, -9, -1000000};
    private static final int MOST_PRINTED = 40;

    private static int sentences = 0;
    private static int wrong = 0;

    private Runs() {
    }

    /** The steps of several parts, each a step or a row of them. */
    static String[] steps(Object... parts) {
        List<String> all = new ArrayList<>();
        for (Object part : parts) {
            if (part instanceof String[] row) {
                all.addAll(Arrays.asList(row));
            } else {
                all.add(part.toString());
            }
        }
        return all.toArray(new String[0]);
    }

    static void run(String sentence, Object... parts) {
        sentences++;
        Told x = new Told();
        for (String step : steps(parts)) {
            follow(x, step, sentence);
        }
    }

    /** The object of a run, whose answers are looked at elsewhere. */
    private static Told made(String[] steps) {
        Told x = new Told();
        for (String step : steps) {
            follow(x, step, null);
        }
        return x;
    }

    private static void follow(Told x, String step, String sentence) {
        if (step.startsWith("text ")) {
            for (char c : step.substring(5).toCharArray()) {
                x.ask("type " + (int) c);
            }
            return;
        }
        int star = step.indexOf('*');
        int times = star < 0 ? 1 : Integer.parseInt(step.substring(0, star).trim());
        String call = step.substring(star + 1);
        int due = call.indexOf('=');
        for (int i = 0; i < times; i++) {
            long got = x.ask(due < 0 ? call : call.substring(0, due));
            if (due >= 0 && sentence != null) {
                check(sentence, step, got, number(call.substring(due + 1).trim()));
            }
        }
    }

    private static long number(String word) {
        int name = NAMES.indexOf(word);
        return name < 0 ? Long.parseLong(word) : NUMBERS[name];
    }

    private static void check(String sentence, String step, long got, long want) {
        if (got != want) {
            complain(sentence, step + ": answered " + got);
        }
    }

    private static void complain(String sentence, String what) {
        wrong++;
        if (wrong <= MOST_PRINTED) {
            System.out.println("[" + sentence + "] " + what);
        }
    }

    static void due(String sentence, long got, String want) {
        sentences++;
        check(sentence, want, got, number(want));
    }

    /** Each of the calls, behind the same steps, answers what is due and leaves all as it was. */
    static void nothingChanges(String sentence, String[] before, String... calls) {
        List<String> due = all(before);
        for (String call : calls) {
            run(sentence, before, call);
            compare(sentence, call, due, all(steps(before, call)));
        }
    }

    /** Both runs end with all being the same. */
    static void same(String sentence, String[] one, String[] other) {
        run(sentence, (Object) one);
        run(sentence, (Object) other);
        compare(sentence, "the one run and the other", all(one), all(other));
    }

    private static void compare(String sentence, String what, List<String> due, List<String> got) {
        for (int i = 0; i < Math.max(due.size(), got.size()); i++) {
            String one = i < due.size() ? due.get(i) : "nothing";
            String other = i < got.size() ? got.get(i) : "nothing";
            if (!one.equals(other)) {
                complain(sentence, what + ": " + other + ", where it was " + one);
                return;
            }
        }
    }

    /** All that can be seen behind a run; what can be seen but once is looked at on an object of its own. */
    private static List<String> all(String[] steps) {
        List<String> seen = new ArrayList<>(made(steps).readings());
        seen.addAll(made(steps).past());
        seen.addAll(made(steps).image(0));
        seen.addAll(made(steps).image(1));
        seen.addAll(made(steps).textRead());
        return seen;
    }

    static void end() {
        System.out.println(wrong == 0 ? sentences + " runs are as due" : wrong + " answers are not as due");
        if (wrong != 0) {
            System.exit(1);
        }
    }
}
