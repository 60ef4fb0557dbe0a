import java.lang.reflect.Field;
import java.lang.reflect.Method;
import java.lang.reflect.Modifier;
import java.nio.file.Files;
import java.nio.file.Path;
import java.util.ArrayDeque;
import java.util.Arrays;
import java.util.Deque;
import java.util.List;
import java.util.Map;
import java.util.Set;
import java.util.TreeMap;
import java.util.TreeSet;
import java.util.regex.Matcher;
import java.util.regex.Pattern;

/** The face of the class, and the rules of LANGUAGE.md that can be seen in its source or its compiled form. */
public final class LanguageTest {
    private static final Path SOURCE = Path.of("src/main/java/SoiledTests.java");
    private static final List<String> FACE = List.of(
        "int test(int,int,int,int,int)", "int cuts()", "int lays(int)", "int wipes()", "int start(int)", "int mode(int)",
        "int shuffles(int)", "int trims(int)", "int of(int,int)", "int soils(int,int)", "int cleans(int,int)",
        "int flips(int)", "int seed(int,int)", "int at(int)", "int inRow(int,int)", "int who(int,int)",
        "int left(int,int)", "int count(int)", "int type(int)", "int clear()", "int does()", "int back()",
        "int told(int)", "long digest()");
    private static int wrong = 0;

    private static void must(boolean so, String what) {
        if (!so) {
            wrong++;
            System.out.println("not so: " + what);
        }
    }

    private static String told(Method m) {
        StringBuilder told = new StringBuilder(m.getReturnType() + " " + m.getName() + "(");
        for (Class<?> type : m.getParameterTypes()) {
            told.append(told.charAt(told.length() - 1) == '(' ? "" : ",").append(type);
        }
        return told.append(')').toString();
    }

    private static void face() {
        Class<?> c = SoiledTests.class;
        must(Modifier.isPublic(c.getModifiers()) && Modifier.isFinal(c.getModifiers()), "the class is public and final");
        must(c.getPackageName().isEmpty() && c.getSuperclass() == Object.class && c.getInterfaces().length == 0, "it stands alone");
        must(c.getDeclaredConstructors().length == 1 && c.getConstructors().length == 1
            && c.getConstructors()[0].getParameterCount() == 0, "one constructor, public, of nothing");
        Set<String> open = new TreeSet<>();
        for (Method m : c.getDeclaredMethods()) {
            if (!Modifier.isPrivate(m.getModifiers())) {
                must(m.getModifiers() == Modifier.PUBLIC, m.getName() + " is public and nothing else");
                open.add(told(m));
            }
        }
        must(open.equals(new TreeSet<>(FACE)), "the methods are those of the document, but they are " + open);
        Set<String> constants = new TreeSet<>();
        for (Field f : c.getDeclaredFields()) {
            if (Modifier.isPrivate(f.getModifiers())) {
                must(!Modifier.isStatic(f.getModifiers()) || Modifier.isFinal(f.getModifiers()), f.getName() + " is final");
            } else {
                must(f.getModifiers() == (Modifier.PUBLIC | Modifier.STATIC | Modifier.FINAL) && f.getType() == int.class,
                    f.getName() + " is a constant");
                constants.add(f.getName());
            }
        }
        must(constants.equals(Set.of("NONE", "BAD", "NO", "FULL")), "the constants are those of the document");
    }

    private static void classesInside() {
        Set<String> publicNames = new TreeSet<>();
        for (String method : FACE) {
            publicNames.add(method.replaceAll("^\\w+ (\\w+)\\(.*$", "$1"));
        }
        Class<?>[] inside = SoiledTests.class.getDeclaredClasses();
        must(inside.length <= 11, "twelve classes at most");
        for (Class<?> c : inside) {
            must(Modifier.isStatic(c.getModifiers()) && !Modifier.isPublic(c.getModifiers())
                && !Modifier.isProtected(c.getModifiers()), c.getName() + " is static and not open");
            must(c.getDeclaredFields().length <= 20, c.getName() + " has twenty fields at most");
            for (Method m : c.getDeclaredMethods()) {
                must(!publicNames.contains(m.getName()), c.getName() + "." + m.getName() + " has the name of a public method");
                must(m.getParameterCount() <= 7, m.getName() + " takes seven parameters at most");
            }
            for (Field f : c.getDeclaredFields()) {
                must(!Modifier.isStatic(f.getModifiers()) || Modifier.isFinal(f.getModifiers()), f.getName() + " is final");
            }
        }
        for (Method m : SoiledTests.class.getDeclaredMethods()) {
            must(!Modifier.isPrivate(m.getModifiers()) || !publicNames.contains(m.getName()),
                m.getName() + " is private and has the name of a public method");
        }
    }

    private static String withoutComments(String source) {
        return source.replaceAll("(?s)/\\*.*?\\*/", "").replaceAll("//[^\n]*", "").replaceAll("'(\\\\.|[^'\\\\])'", "' '")
            .replaceAll("\"(\\\\.|[^\"\\\\])*\"", "\"\"");
    }

    private static void source() throws java.io.IOException {
        String whole = Files.readString(SOURCE);
        must(whole.chars().allMatch(c -> c == '\n' || c >= 32 && c < 127), "the source has plain signs alone");
        String code = withoutComments(whole);
        for (String word : List.of("throw", "throws", "try", "catch", "finally", "synchronized", "assert", "import", "package",
            "volatile", "transient", "native", "strictfp", "var", "equals", "hashCode", "toString", "Object", "double", "float",
            "addExact", "multiplyExact", "toIntExact", "Thread", "Random", "nanoTime", "currentTimeMillis", "getClass")) {
            must(!Pattern.compile("\\b" + word + "\\b").matcher(code).find(), "the word " + word + " is not in the source");
        }
        for (String sign : List.of("->", "::", "@", "...", "while (true)", "for (;;)")) {
            must(!code.contains(sign), sign + " is not in the source");
        }
        must(!Pattern.compile("\\bstatic\\s*\\{").matcher(code).find(), "there is no static block");
        Matcher library = Pattern.compile("\\b(System|Math|Integer|Long|Arrays)\\.(\\w+)").matcher(code);
        Set<String> allowed = Set.of("System.arraycopy", "Math.min", "Math.max", "Math.abs", "Integer.bitCount");
        while (library.find()) {
            must(allowed.contains(library.group()), library.group() + " is of the library that the rules list");
        }
        methodsAreShort(whole);
        objectsAreMadeInConstructorsAlone(code);
        Map<String, Set<String>> calls = callsOfMethods(code);
        must(calls.keySet().containsAll(Set.of("digest", "trims", "Suite.wrongCells", "Orders.read")), "the methods were found");
        for (String method : calls.keySet()) {
            int deep = depthOf(method, calls, new ArrayDeque<>());
            must(deep <= 8, method + " stands at most eight calls deep, and no method comes to itself");
        }
    }

    /** All calls of a run share one room, so a call makes nothing: what is made is a field, or a slot of Past. */
    private static void objectsAreMadeInConstructorsAlone(String code) {
        for (String line : code.split("\n")) {
            boolean isField = line.matches(" +private final [\\w\\[\\]]+ \\w+ = new .*;");
            must(!line.matches(".*\\bnew\\b.*") || isField || line.strip().equals("slots[i] = new Suite();"),
                "no method makes an object, as in " + line.strip());
        }
    }

    /** Each method (of a class inside: with the class's name) and those it may call, as the source's names tell. */
    private static Map<String, Set<String>> callsOfMethods(String code) {
        Map<String, String> bodies = new TreeMap<>();
        String owner = "";
        String method = "";
        for (String line : code.split("\n")) {
            Matcher inside = Pattern.compile("    private static final class (\\w+) \\{").matcher(line);
            Matcher head = Pattern.compile(" {4,8}(?:\\w+ )*?(\\w+)\\([^;]*\\) \\{").matcher(line);
            boolean isStatement = line.matches(" +(if|for|while|switch|return)\\b.*");
            if (line.equals("    }") && !owner.isEmpty()) {
                owner = "";
            } else if (inside.matches()) {
                owner = inside.group(1) + ".";
            } else if (head.matches() && !isStatement) {
                method = owner + head.group(1);
            } else if (!method.isEmpty()) {
                bodies.merge(method, line + "\n", String::concat);
            }
        }
        Map<String, Set<String>> calls = new TreeMap<>();
        for (String caller : bodies.keySet()) {
            calls.put(caller, calledIn(bodies.get(caller), caller, bodies.keySet()));
        }
        return calls;
    }

    private static Set<String> calledIn(String body, String caller, Set<String> methods) {
        Set<String> called = new TreeSet<>();
        String owner = caller.replaceAll("\\w+$", "");
        Matcher call = Pattern.compile("(\\.?)\\b(\\w+)\\(").matcher(body);
        while (call.find()) {
            boolean isOfAnother = !call.group(1).isEmpty();
            for (String method : methods) {
                boolean fits = isOfAnother ? method.endsWith("." + call.group(2))
                    : method.equals(owner + call.group(2)) || method.equals(call.group(2));
                // a call on another object that has the caller's own name: Suite.copyFrom hands on to Row.copyFrom
                if (fits && !(isOfAnother && method.equals(caller))) {
                    called.add(method);
                }
            }
        }
        return called;
    }

    private static int depthOf(String method, Map<String, Set<String>> calls, Deque<String> open) {
        if (open.contains(method)) {
            return 1000;
        }
        open.push(method);
        int deepest = 0;
        for (String called : calls.get(method)) {
            deepest = Math.max(deepest, depthOf(called, calls, open));
        }
        open.pop();
        return deepest + 1;
    }

    private static void methodsAreShort(String whole) {
        String[] lines = whole.split("\n");
        int begin = -1;
        String indent = "";
        for (int i = 0; i < lines.length; i++) {
            if (begin < 0 && lines[i].matches(" +(?!.*\\bclass\\b).*\\) \\{") && !lines[i].matches(" +(\\} )?(if|for|while|switch|else)\\b.*")) {
                begin = i;
                indent = lines[i].replaceAll("\\S.*", "");
            } else if (begin >= 0 && lines[i].equals(indent + "}")) {
                must(i - begin < 60, "the method at line " + (begin + 1) + " has at most sixty lines");
                begin = -1;
            }
        }
        must(begin < 0, "every method's end was found");
        must(Arrays.stream(lines).noneMatch(l -> l.contains("\t") || l.endsWith(" ")), "no tabs, no blanks at a line's end");
    }

    public static void main(String[] args) throws java.io.IOException {
        face();
        classesInside();
        source();
        System.out.println(wrong == 0 ? "the face and the rules hold" : wrong + " rules do not hold");
        if (wrong != 0) {
            System.exit(1);
        }
    }
}
