import java.io.IOException;
import java.lang.reflect.Constructor;
import java.lang.reflect.Field;
import java.lang.reflect.Method;
import java.lang.reflect.Modifier;
import java.nio.charset.StandardCharsets;
import java.nio.file.Files;
import java.nio.file.Path;
import java.util.Set;
import java.util.TreeSet;
import java.util.regex.Matcher;
import java.util.regex.Pattern;

/** The document's face and no other, and the rules of LANGUAGE.md that can be seen from outside. The source's path is the argument. */
public final class FaceAndLanguage {
    private static final String[] METHODS = {
        "int type(int)", "int clear()", "int hill()", "int cell(int,int,int)", "int thing(int,int)",
        "int digs(int,int)", "int scrapes(int)", "int paints(int,int)", "int stretches(int,int)", "int years(int)",
        "int undo()", "int now(int)", "int lasts(int)", "int first()", "int needs(int,int)", "int kept(int,int)",
        "int bestDig(int,int)", "int far(int)", "int sell(int,int,int)", "int spare(int)", "int rich()",
        "int odds(int,int,int,int)", "int came(int)", "int forget()", "int fits(int)", "int mark(int,int)",
        "int keep(int)", "int back(int)", "int count(int)", "long trace()"};
    private static final String[] CONSTANTS = {"BAD", "STATE", "FULL", "NONE", "NO"};
    private static final String[] FORBIDDEN = {
        "throw", "throws", "try", "catch", "finally", "synchronized", "assert", "import", "package", "var", "volatile",
        "native", "transient", "strictfp", "protected"};

    private static int wrong = 0;

    public static void main(String[] args) throws IOException {
        face();
        insides();
        source(args.length > 0 ? args[0] : "src/main/java/LastOchre.java");
        System.out.println(wrong == 0 ? "the face and the language are as due" : wrong + " things are not as due");
        if (wrong != 0) {
            System.exit(1);
        }
    }

    private static void check(boolean holds, String what) {
        if (!holds) {
            wrong++;
            System.out.println("not as due: " + what);
        }
    }

    private static void face() {
        Class<?> type = LastOchre.class;
        check(Modifier.isPublic(type.getModifiers()) && Modifier.isFinal(type.getModifiers()), "public final class");
        Set<String> due = new TreeSet<>(Set.of(METHODS));
        for (Method method : type.getDeclaredMethods()) {
            if (!Modifier.isPrivate(method.getModifiers()) && !method.isSynthetic()) {
                check(due.remove(signature(method)) && Modifier.isPublic(method.getModifiers()) && !Modifier.isStatic(method.getModifiers()), "method " + method);
            }
        }
        check(due.isEmpty(), "methods missing: " + due);
        Constructor<?>[] constructors = type.getDeclaredConstructors();
        check(constructors.length == 1 && Modifier.isPublic(constructors[0].getModifiers()) && constructors[0].getParameterCount() == 0, "the constructor");
        Set<String> constants = new TreeSet<>(Set.of(CONSTANTS));
        for (Field field : type.getDeclaredFields()) {
            if (!Modifier.isPrivate(field.getModifiers())) {
                check(constants.remove(field.getName()) && Modifier.isPublic(field.getModifiers()) && Modifier.isStatic(field.getModifiers())
                    && Modifier.isFinal(field.getModifiers()) && field.getType() == int.class, "field " + field);
            }
        }
        check(constants.isEmpty(), "constants missing: " + constants);
    }

    private static String signature(Method method) {
        StringBuilder s = new StringBuilder(method.getReturnType().getName()).append(' ').append(method.getName()).append('(');
        for (Class<?> parameter : method.getParameterTypes()) {
            s.append(s.charAt(s.length() - 1) == '(' ? "" : ",").append(parameter.getName());
        }
        return s.append(')').toString();
    }

    private static void insides() {
        Set<String> publicNames = new TreeSet<>();
        for (String method : METHODS) {
            publicNames.add(method.substring(method.indexOf(' ') + 1, method.indexOf('(')));
        }
        Class<?>[] inside = LastOchre.class.getDeclaredClasses();
        check(inside.length + 1 <= 12, "too many classes");
        oneClass(LastOchre.class);
        for (Class<?> nested : inside) {
            check(Modifier.isStatic(nested.getModifiers()) && !Modifier.isPublic(nested.getModifiers()), "nested " + nested);
            oneClass(nested);
            for (Method method : nested.getDeclaredMethods()) {
                check(!publicNames.contains(method.getName()), "a public name inside: " + method);
            }
        }
        for (Method method : LastOchre.class.getDeclaredMethods()) {
            check(!Modifier.isPrivate(method.getModifiers()) || !publicNames.contains(method.getName()), "a public name: " + method);
        }
    }

    private static void oneClass(Class<?> type) {
        int fields = 0;
        for (Field field : type.getDeclaredFields()) {
            if (Modifier.isStatic(field.getModifiers())) {
                check(Modifier.isFinal(field.getModifiers()), "static state " + field);
            } else {
                fields++;
            }
        }
        check(fields <= 20, "too many fields in " + type);
        for (Method method : type.getDeclaredMethods()) {
            check(method.getParameterCount() <= 7, "too many parameters: " + method);
        }
    }

    private static void source(String path) throws IOException {
        String all = Files.readString(Path.of(path), StandardCharsets.ISO_8859_1);
        for (int i = 0; i < all.length(); i++) {
            check(all.charAt(i) < 128, "a sign above 127 at " + i);
        }
        String code = all.replaceAll("(?s)/\\*.*?\\*/", "").replaceAll("//[^\n]*", "");
        for (String word : FORBIDDEN) {
            check(!Pattern.compile("\\b" + word + "\\b").matcher(code).find(), "the word " + word);
        }
        check(!code.contains("->"), "an arrow");
        check(!code.contains("::"), "a method reference");
        check(!code.contains("\""), "a text");
        check(!Pattern.compile("\\b(double|float)\\b").matcher(code).find(), "a broken number");
        Matcher library = Pattern.compile("\\b(Math|Integer|Long|System|Arrays)\\.(\\w+)").matcher(code);
        Set<String> allowed = Set.of("max", "min", "abs", "bitCount", "compare", "arraycopy", "fill", "copyOf", "copyOfRange");
        while (library.find()) {
            check(allowed.contains(library.group(2)), "library call " + library.group());
        }
        onlyConstructorsMake(code);
        methodsAreShort(code);
    }

    private static void methodsAreShort(String code) {
        Matcher method = Pattern.compile("(?m)^( {4}| {8})\\w[^\n;=]*\\([^\n]*\\) \\{\n(.*?)^\\1\\}$", Pattern.DOTALL).matcher(code);
        int found = 0;
        while (method.find()) {
            found++;
            check(method.group().split("\n").length <= 60, "a method of over sixty lines: " + method.group().trim().split("\n")[0]);
        }
        check(found > METHODS.length, "methods are not found by their looks");
    }

    /** All calls of a run share one room, so nothing is made but by a constructor or a field's initialiser. */
    private static void onlyConstructorsMake(String code) {
        int from = code.indexOf("public LastOchre() {");
        int to = code.indexOf("}", from);
        String rest = code.substring(0, from) + code.substring(to);
        for (String line : rest.split("\n")) {
            check(!line.contains(" new ") || line.matches("\\s+private final .* = new .*;"), "made outside a constructor: " + line.trim());
        }
    }
}
