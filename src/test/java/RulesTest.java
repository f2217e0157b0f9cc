import java.io.IOException;
import java.lang.reflect.Constructor;
import java.lang.reflect.Field;
import java.lang.reflect.Method;
import java.lang.reflect.Modifier;
import java.nio.file.Files;
import java.nio.file.Path;
import java.util.ArrayList;
import java.util.Arrays;
import java.util.HashSet;
import java.util.List;
import java.util.Map;
import java.util.Set;
import java.util.TreeMap;
import java.util.TreeSet;
import java.util.regex.MatchResult;
import java.util.regex.Matcher;
import java.util.regex.Pattern;

/** The document's face, and those rules of LANGUAGE.md that reflection or the source's words show. */
public final class RulesTest {
    private static final String[] FACE = {
        "arrow(int, int)", "board(int, int, int)", "detour(int)", "ends(int)", "entrance(int, boolean)",
        "far(int, int, int)", "fewest(int)", "follow(int, int, int)", "from(int)", "idle(int)", "leads(int, int)",
        "many(int)", "mend(int)", "moves(int, int)", "name(int)", "ofWalk(int, int)", "open(int, boolean)",
        "posts()", "those(int, int)", "unboard(int, int)", "unwalk()", "walk(int, int, int)"};
    private static final String[] FORBIDDEN = {
        "\\bthrow\\b", "\\btry\\b", "\\bcatch\\b", "\\bsynchronized\\b", "\\bassert\\b", "->", "::", "\\bpackage\\b",
        "\\bprotected\\b", "\\bRandom\\b", "\\bThread\\b", "currentTimeMillis", "nanoTime", "\\w+Exact\\b",
        "[^\\x00-\\x7f]", "import (?!java\\.util\\.(Arrays|ArrayList|List|Iterator);)", "while \\(true\\)",
        "for \\(;;\\)", "static \\{", "\\bequals\\b", "\\bhashCode\\b", "\\btoString\\b"};
    private static final Set<String> LIBRARY = Set.of(
        "Arrays.fill", "Integer.bitCount", "Math.max", "Math.min", "System.arraycopy");
    private static final Pattern HEAD = Pattern.compile("^( {4}| {8})(?=\\w)[\\w\\[\\] ]*?(\\w+)\\([^;]*\\) \\{$");

    private static int wrong = 0;

    private static void must(boolean holds, String what) {
        if (!holds) {
            wrong++;
            System.out.println("not so: " + what);
        }
    }

    public static void main(String[] args) throws IOException {
        face();
        constants();
        for (Class<?> inside : WaySigns.class.getDeclaredClasses()) {
            must(Modifier.isStatic(inside.getModifiers()), inside + " is static");
            must(!Modifier.isPublic(inside.getModifiers()), inside + " is not public");
            members(inside);
        }
        members(WaySigns.class);
        must(WaySigns.class.getDeclaredClasses().length <= 12, "there are at most twelve classes");
        String text = Files.readString(Path.of("src/main/java/WaySigns.java"));
        faceInWords(text, Files.readString(Path.of("../shared/DOC.md")));
        source(text);
        System.out.println(wrong == 0 ? "all rules hold" : wrong + " rules do not hold");
        if (wrong != 0) {
            System.exit(1);
        }
    }

    private static void face() {
        int modifiers = WaySigns.class.getModifiers();
        must(Modifier.isPublic(modifiers) && Modifier.isFinal(modifiers), "the class is public and final");
        Set<String> found = new TreeSet<>();
        for (Method method : WaySigns.class.getDeclaredMethods()) {
            if (!Modifier.isPrivate(method.getModifiers())) {
                String types = Arrays.toString(method.getParameterTypes());
                found.add(method.getName() + "(" + types.substring(1, types.length() - 1) + ")");
                must(Modifier.isPublic(method.getModifiers()), method + " is public");
                must(!Modifier.isStatic(method.getModifiers()), method + " is of an object");
                must(method.getReturnType() == int.class, method + " answers int");
            }
        }
        must(found.equals(new TreeSet<>(Arrays.asList(FACE))), "the methods are the document's: " + found);
        Constructor<?>[] constructors = WaySigns.class.getDeclaredConstructors();
        must(constructors.length == 1 && Modifier.isPublic(constructors[0].getModifiers())
            && constructors[0].getParameterCount() == 0, "there is one constructor, public, of nothing");
    }

    /** The names of the parameters, too, which reflection does not tell. */
    private static void faceInWords(String text, String document) {
        String block = document.substring(document.indexOf("```java"), document.indexOf("## Terms"));
        must(publicLines(block).size() == 25, "the document's face has 25 lines");
        must(publicLines(text).equals(publicLines(block)), "the face is the document's: " + publicLines(text));
    }

    private static List<String> publicLines(String text) {
        List<String> lines = new ArrayList<>();
        for (String line : text.split("\n")) {
            if (line.trim().startsWith("public ")) {
                lines.add(line.trim().replaceAll(" ?[;{]$", ""));
            }
        }
        return lines;
    }

    private static void constants() {
        must(WaySigns.UNKNOWN == -1, "UNKNOWN is -1");
        must(WaySigns.OUTSIDE == -2, "OUTSIDE is -2");
        must(WaySigns.STATE == -3, "STATE is -3");
        must(WaySigns.FULL == -4, "FULL is -4");
        must(WaySigns.NONE == -9, "NONE is -9");
        Set<String> due = Set.of("UNKNOWN", "OUTSIDE", "STATE", "FULL", "NONE");
        for (Field field : WaySigns.class.getDeclaredFields()) {
            boolean open = !Modifier.isPrivate(field.getModifiers());
            must(open == due.contains(field.getName()), field + " is seen only if the document names it");
        }
    }

    private static void members(Class<?> type) {
        Set<String> names = new TreeSet<>();
        for (String method : FACE) {
            names.add(method.substring(0, method.indexOf('(')));
        }
        for (Method method : type.getDeclaredMethods()) {
            boolean ofFace = type == WaySigns.class && Modifier.isPublic(method.getModifiers());
            must(ofFace || !names.contains(method.getName()), method + " bears a name of its own");
            must(method.getParameterCount() <= 7, method + " takes at most seven");
        }
        int fields = 0;
        for (Field field : type.getDeclaredFields()) {
            boolean shared = Modifier.isStatic(field.getModifiers());
            must(!shared || Modifier.isFinal(field.getModifiers()), field + " is final");
            must(!shared || field.getType() == int.class, field + " is a number");
            fields += shared ? 0 : 1;
        }
        must(fields <= 20, type + " has at most twenty fields");
    }

    private static void source(String text) {
        String code = text.replaceAll("(?s)/\\*.*?\\*/", "").replaceAll("//[^\n]*", "");
        for (String words : FORBIDDEN) {
            Matcher matcher = Pattern.compile(words).matcher(code);
            must(!matcher.find(), "no " + words + " in the source");
        }
        must(!Pattern.compile("[^\\x00-\\x7f]").matcher(text).find(), "plain signs in the comments, too");
        for (MatchResult used : Pattern.compile("\\b[A-Z][a-z]\\w*\\.\\w+").matcher(code).results().toList()) {
            boolean imported = code.contains("import java.util." + used.group() + ";");
            must(imported || LIBRARY.contains(used.group()), used.group() + " is of the library that is allowed");
        }
        Map<String, List<String>> methods = methodsOf(code);
        must(methods.size() > 40, "the methods have been found: " + methods.keySet());
        for (Map.Entry<String, List<String>> method : methods.entrySet()) {
            must(method.getValue().size() <= 60, method.getKey() + " has at most sixty lines");
            rowsAreMadeInConstructors(method.getKey(), method.getValue());
            callsGoAtMostEightDeep(method.getKey(), methods, new ArrayList<>());
        }
    }

    /** The lines of each method and constructor; what bears one name is taken as one. */
    private static Map<String, List<String>> methodsOf(String code) {
        Map<String, List<String>> methods = new TreeMap<>();
        String end = null;
        List<String> lines = null;
        for (String line : code.split("\n")) {
            Matcher head = HEAD.matcher(line);
            if (end == null && head.find()) {
                lines = methods.computeIfAbsent(head.group(2), name -> new ArrayList<>());
                end = head.group(1) + "}";
            } else if (line.equals(end)) {
                end = null;
            } else if (end != null) {
                lines.add(line);
            }
            must(end != null || !line.contains(" new "), "what is made is made in a method: " + line.trim());
        }
        return methods;
    }

    /** Calls make no objects, so that any number of them lives in the one room. */
    private static void rowsAreMadeInConstructors(String method, List<String> lines) {
        for (String line : lines) {
            boolean makes = Pattern.compile("\\bnew\\b|\\bclone\\(|copyOf").matcher(line).find();
            must(!makes || Character.isUpperCase(method.charAt(0)), method + " makes no object: " + line.trim());
        }
    }

    private static void callsGoAtMostEightDeep(String method, Map<String, List<String>> methods, List<String> above) {
        List<String> open = new ArrayList<>(above);
        open.add(method);
        must(!above.contains(method), "no method calls itself: " + open);
        must(open.size() <= 8, "calls go at most eight deep: " + open);
        if (above.contains(method) || open.size() > 8) {
            return;
        }
        Set<String> called = new HashSet<>();
        for (String line : methods.get(method)) {
            Pattern.compile("(\\w+)\\(").matcher(line).results().forEach(call -> called.add(call.group(1)));
        }
        called.retainAll(methods.keySet());
        for (String next : called) {
            callsGoAtMostEightDeep(next, methods, open);
        }
    }
}
