import java.io.IOException;
import java.io.PrintWriter;
import java.io.StringWriter;
import java.lang.reflect.Constructor;
import java.lang.reflect.Field;
import java.lang.reflect.Method;
import java.lang.reflect.Modifier;
import java.nio.file.Files;
import java.nio.file.Path;
import java.util.Map;
import java.util.Optional;
import java.util.Set;
import java.util.TreeMap;
import java.util.TreeSet;
import java.util.regex.Matcher;
import java.util.regex.Pattern;
import java.util.spi.ToolProvider;

/** The public face of the document, and what of ../shared/LANGUAGE.md a look at the text can tell. */
public final class FaceTest {
    private static final String[] FACE = {
        "int feed(int)", "int town()", "int person(int,int)", "int book(int,int)", "int title(int,int)",
        "int comes(int,int,int)", "int brings(int,int,int,int)", "int eats(int,int)", "int reads(int,int)",
        "int lends(int,int)", "int buys(int,int)", "int step(int,int)", "int clearLaw()", "int weeks(int)",
        "int back()", "int over(int,int)", "int pan(int,int,int)", "int overThen(int,int,int)",
        "int then(int,int,int)", "int when(int,int)", "int first()", "int buy(int,int,int)",
        "int borrow(int,int,int)", "int taught(int,int,int,int)", "int couples(int)", "int heaviest(int,int,int)",
        "int whatKind(int,int,int,int)", "int two(int,int,int)", "long damp(int,int,int,int,int)",
        "int titles(int,int)", "int from(int)", "int shelf(int,int)", "int sight(int)", "long share(int,int)",
        "int byHeart(int,int)", "int kinds(int)", "int row(int)", "int judge()", "int clear()",
        "int lots(int,int,int)", "int image()", "int restore()", "int count(int)"};

    public static void main(String[] args) throws IOException {
        String source = Files.readString(Path.of("src/main/java/WeighedInBooks.java"));
        Checks checks = new Checks();
        checks.test("the face is the document's", FaceTest::face);
        checks.test("no more than the face is seen", FaceTest::nothingElse);
        checks.test("the language is kept to", c -> language(c, bare(source)));
        checks.test("short methods, few parameters", c -> sizes(c, source));
        checks.test("calls that are no recursion go at most eight deep", FaceTest::depths);
        checks.end();
    }

    private static String signature(Method method) {
        StringBuilder told = new StringBuilder(method.getReturnType() + " " + method.getName() + "(");
        for (Class<?> type : method.getParameterTypes()) {
            told.append(told.charAt(told.length() - 1) == '(' ? "" : ",").append(type);
        }
        return told + ")";
    }

    private static void face(Checks c) {
        Set<String> seen = new TreeSet<>();
        for (Method method : WeighedInBooks.class.getDeclaredMethods()) {
            if (!Modifier.isPrivate(method.getModifiers())) {
                c.isTrue(method + " is not public", Modifier.isPublic(method.getModifiers()));
                c.isTrue(method + " is static", !Modifier.isStatic(method.getModifiers()));
                seen.add(signature(method));
            }
        }
        Set<String> due = new TreeSet<>(Set.of(FACE));
        c.isTrue("seen are " + seen, seen.equals(due));
    }

    private static void nothingElse(Checks c) {
        int itself = WeighedInBooks.class.getModifiers();
        c.isTrue("the class is public and final", Modifier.isPublic(itself) && Modifier.isFinal(itself));
        Constructor<?>[] made = WeighedInBooks.class.getDeclaredConstructors();
        c.isTrue("one public constructor of nothing", made.length == 1
            && Modifier.isPublic(made[0].getModifiers()) && made[0].getParameterCount() == 0);
        for (Field field : WeighedInBooks.class.getDeclaredFields()) {
            c.isTrue(field + " is private", Modifier.isPrivate(field.getModifiers()));
        }
        Set<String> names = new TreeSet<>();
        for (String told : FACE) {
            names.add(told.substring(told.indexOf(' ') + 1, told.indexOf('(')));
        }
        Class<?>[] inside = WeighedInBooks.class.getDeclaredClasses();
        c.isTrue("twelve classes at most", inside.length < 12);
        for (Class<?> one : inside) {
            int kind = one.getModifiers();
            c.isTrue(one + " is static and hidden", Modifier.isStatic(kind) && !Modifier.isPublic(kind)
                && !Modifier.isProtected(kind));
            for (Method method : one.getDeclaredMethods()) {
                c.isTrue(method + " bears a public name", !names.contains(method.getName()));
            }
        }
        for (Method method : WeighedInBooks.class.getDeclaredMethods()) {
            c.isTrue(method + " bears a public name",
                Modifier.isPublic(method.getModifiers()) || !names.contains(method.getName()));
        }
    }

    /** The text without comments and texts. */
    private static String bare(String source) {
        return source.replaceAll("(?s)/\\*.*?\\*/", " ").replaceAll("//[^\n]*", " ")
            .replaceAll("\"[^\"\n]*\"", "\"\"").replaceAll("'[^'\n]*'", "0");
    }

    private static void language(Checks c, String bare) {
        String noArrowCases = bare.replaceAll("\\b(case [^:;{}]*?|default)\\s*->", " ");
        Matcher banned = Pattern.compile("\\b(throw|throws|try|catch|finally|synchronized|assert|package|native|volatile"
            + "|transient|Object|System\\.(?!arraycopy)|Thread|Random|hashCode|[A-Z]\\w+\\.[A-Z]+_VALUE|\\w+Exact)|->|::")
            .matcher(noArrowCases);
        while (banned.find()) {
            c.isTrue("the text has " + banned.group(), false);
        }
        Matcher imported = Pattern.compile("\\bimport ([^;]+);").matcher(bare);
        while (imported.find()) {
            c.isTrue("the text imports " + imported.group(1), Set.of("java.util.ArrayList", "java.util.List",
                "java.util.Arrays", "java.util.Iterator", "java.util.*").contains(imported.group(1)));
        }
        Set<String> known = new TreeSet<>(Set.of("int", "long", "short", "byte", "char", "boolean", "double", "float",
            "String", "StringBuilder", "Integer", "ArrayList", "List"));
        for (Class<?> inside : WeighedInBooks.class.getDeclaredClasses()) {
            known.add(inside.getSimpleName());
        }
        Matcher made = Pattern.compile("\\bnew (\\w+)").matcher(bare);
        while (made.find()) {
            c.isTrue("the text makes " + made.group(1), known.contains(made.group(1)));
        }
        Matcher statics = Pattern.compile("(?m)^\\s*(private )?static (?!final)(\\w+(\\[\\])*) \\w+\\s*[;=]").matcher(bare);
        c.isTrue("a static field is not final", !statics.find());
    }

    private static void sizes(Checks c, String source) {
        String[] lines = source.split("\n");
        int start = -1;
        for (int i = 0; i < lines.length; i++) {
            if (lines[i].matches(" +(?!static final|private static final|private final)[\\w\\[\\] ]*\\w+\\(.*\\) \\{")
                && !lines[i].matches(" +(if|for|while|switch|\\} else).*")) {
                start = i;
                c.isTrue("seven parameters at most: " + lines[i].strip(), lines[i].split(",").length <= 7);
            } else if (start >= 0 && lines[i].matches(" {4,8}\\}") && lines[i].indexOf('}')
                == lines[start].length() - lines[start].stripLeading().length()) {
                c.isTrue("sixty lines at most: " + lines[start].strip(), i - start <= 60);
                start = -1;
            }
            c.isTrue("line " + (i + 1) + " has signs above 126", lines[i].matches("[\\x20-\\x7e]*"));
        }
    }

    private static void depths(Checks c) {
        Map<String, Set<String>> calls = calls(c);
        for (Method method : WeighedInBooks.class.getDeclaredMethods()) {
            String name = "WeighedInBooks." + method.getName();
            c.isTrue(name + " is not among " + calls.keySet(), calls.isEmpty() || calls.containsKey(name));
            c.isTrue(name + " goes deeper than eight", isWithin(calls, name, 8));
        }
    }

    private static boolean isWithin(Map<String, Set<String>> calls, String name, int levels) {
        for (String called : calls.getOrDefault(name, Set.of())) {
            // What calls itself again, by itself or by others, is a recursion: its depth is not told here.
            if (!reaches(calls, called, name, new TreeSet<>())
                && (levels <= 1 || !isWithin(calls, called, levels - 1))) {
                return false;
            }
        }
        return true;
    }

    private static boolean reaches(Map<String, Set<String>> calls, String from, String to, Set<String> seen) {
        if (from.equals(to)) {
            return true;
        }
        boolean found = false;
        if (seen.add(from)) {
            for (String called : calls.getOrDefault(from, Set.of())) {
                found |= reaches(calls, called, to, seen);
            }
        }
        return found;
    }

    /** For each method those of the class and of the classes inside that it calls; none, if javap isn't there. */
    private static Map<String, Set<String>> calls(Checks c) {
        Map<String, Set<String>> calls = new TreeMap<>();
        Optional<ToolProvider> javap = ToolProvider.findFirst("javap");
        if (javap.isEmpty()) {
            return calls;
        }
        String path = System.getProperty("java.class.path");
        addCalls(c, calls, javap.get(), path, "WeighedInBooks");
        for (Class<?> inside : WeighedInBooks.class.getDeclaredClasses()) {
            addCalls(c, calls, javap.get(), path, inside.getName());
        }
        return calls;
    }

    private static void addCalls(Checks c, Map<String, Set<String>> calls, ToolProvider javap, String path, String name) {
        StringWriter told = new StringWriter();
        PrintWriter out = new PrintWriter(told);
        c.due("javap of " + name, javap.run(out, out, "-p", "-c", "-cp", path, name), 0);
        Pattern head = Pattern.compile("  (?:\\S.* )?([\\w$.]+)\\(.*\\);");
        Pattern call = Pattern.compile("// Method (?:(WeighedInBooks[\\w$]*)\\.)?([\\w<>\"]+):");
        Set<String> called = new TreeSet<>();
        for (String line : told.toString().split("\\R")) {
            Matcher begins = head.matcher(line);
            Matcher calling = call.matcher(line);
            if (begins.matches()) {
                boolean makes = begins.group(1).equals(name);
                called = calls.computeIfAbsent(name + "." + (makes ? "<init>" : begins.group(1)), k -> new TreeSet<>());
            } else if (calling.find()) {
                String of = calling.group(1) == null ? name : calling.group(1);
                called.add(of + "." + calling.group(2).replace("\"", ""));
            }
        }
    }
}
