import java.io.IOException;
import java.lang.reflect.Constructor;
import java.lang.reflect.Field;
import java.lang.reflect.Method;
import java.lang.reflect.Modifier;
import java.nio.file.Files;
import java.nio.file.Path;
import java.util.Arrays;
import java.util.Set;
import java.util.TreeSet;
import java.util.regex.Matcher;
import java.util.regex.Pattern;

/** The document's face, and those rules of LANGUAGE.md that reflection or the source's words show. */
public final class RulesTest {
    private static final String[] FACE = {
        "arrow(int, int)", "board(int, int, int)", "detour(int)", "ends(int)", "entrance(int, boolean)",
        "far(int, int, int)", "fewest(int)", "follow(int, int, int)", "from(int)", "idle(int)", "leads(int, int)",
        "many(int)", "mend(int)", "moves(int, int)", "name(int)", "ofWalk(int, int)", "open(int, boolean)",
        "posts()", "those(int, int)", "unboard(int, int)", "unwalk()", "walk(int, int, int)"};
    private static final String[] FORBIDDEN = {
        "\\bthrow\\b", "\\btry\\b", "\\bcatch\\b", "\\bsynchronized\\b", "\\bassert\\b", "->", "::", "\\bpackage\\b",
        "\\bprotected\\b", "\\bRandom\\b", "\\bThread\\b", "currentTimeMillis", "nanoTime", "\\w+Exact\\b",
        "[^\\x00-\\x7f]", "import (?!java\\.util\\.(Arrays|ArrayList|List|Iterator);)", "while \\(true\\)",
        "for \\(;;\\)", "static \\{", "\\bequals\\b", "\\bhashCode\\b", "\\btoString\\b"};

    private static int wrong = 0;

    private static void must(boolean holds, String what) {
        if (!holds) {
            wrong++;
            System.out.println("not so: " + what);
        }
    }

    public static void main(String[] args) throws IOException {
        face();
        constants();
        for (Class<?> inside : WaySigns.class.getDeclaredClasses()) {
            must(Modifier.isStatic(inside.getModifiers()), inside + " is static");
            must(!Modifier.isPublic(inside.getModifiers()), inside + " is not public");
            members(inside);
        }
        members(WaySigns.class);
        source(Files.readString(Path.of("src/main/java/WaySigns.java")));
        System.out.println(wrong == 0 ? "all rules hold" : wrong + " rules do not hold");
        if (wrong != 0) {
            System.exit(1);
        }
    }

    private static void face() {
        int modifiers = WaySigns.class.getModifiers();
        must(Modifier.isPublic(modifiers) && Modifier.isFinal(modifiers), "the class is public and final");
        Set<String> found = new TreeSet<>();
        for (Method method : WaySigns.class.getDeclaredMethods()) {
            if (!Modifier.isPrivate(method.getModifiers())) {
                String types = Arrays.toString(method.getParameterTypes());
                found.add(method.getName() + "(" + types.substring(1, types.length() - 1) + ")");
                must(Modifier.isPublic(method.getModifiers()), method + " is public");
                must(!Modifier.isStatic(method.getModifiers()), method + " is of an object");
                must(method.getReturnType() == int.class, method + " answers int");
            }
        }
        must(found.equals(new TreeSet<>(Arrays.asList(FACE))), "the methods are the document's: " + found);
        Constructor<?>[] constructors = WaySigns.class.getDeclaredConstructors();
        must(constructors.length == 1 && Modifier.isPublic(constructors[0].getModifiers())
            && constructors[0].getParameterCount() == 0, "there is one constructor, public, of nothing");
    }

    private static void constants() {
        must(WaySigns.UNKNOWN == -1, "UNKNOWN is -1");
        must(WaySigns.OUTSIDE == -2, "OUTSIDE is -2");
        must(WaySigns.STATE == -3, "STATE is -3");
        must(WaySigns.FULL == -4, "FULL is -4");
        must(WaySigns.NONE == -9, "NONE is -9");
        Set<String> due = Set.of("UNKNOWN", "OUTSIDE", "STATE", "FULL", "NONE");
        for (Field field : WaySigns.class.getDeclaredFields()) {
            boolean open = !Modifier.isPrivate(field.getModifiers());
            must(open == due.contains(field.getName()), field + " is seen only if the document names it");
        }
    }

    private static void members(Class<?> type) {
        Set<String> names = new TreeSet<>();
        for (String method : FACE) {
            names.add(method.substring(0, method.indexOf('(')));
        }
        for (Method method : type.getDeclaredMethods()) {
            boolean ofFace = type == WaySigns.class && Modifier.isPublic(method.getModifiers());
            must(ofFace || !names.contains(method.getName()), method + " bears a name of its own");
            must(method.getParameterCount() <= 7, method + " takes at most seven");
        }
        int fields = 0;
        for (Field field : type.getDeclaredFields()) {
            boolean shared = Modifier.isStatic(field.getModifiers());
            must(!shared || Modifier.isFinal(field.getModifiers()), field + " is final");
            fields += shared ? 0 : 1;
        }
        must(fields <= 20, type + " has at most twenty fields");
    }

    private static void source(String text) {
        String code = text.replaceAll("(?s)/\\*.*?\\*/", "").replaceAll("//[^\n]*", "");
        for (String words : FORBIDDEN) {
            Matcher matcher = Pattern.compile(words).matcher(code);
            must(!matcher.find(), "no " + words + " in the source");
        }
        must(!Pattern.compile("[^\\x00-\\x7f]").matcher(text).find(), "plain signs in the comments, too");
        rowsAreMadeInConstructors(code);
    }

    /** Calls make no objects, so that any number of them lives in the one room. */
    private static void rowsAreMadeInConstructors(String code) {
        String method = "";
        for (String line : code.split("\n")) {
            Matcher head = Pattern.compile("^ {4,8}[\\w\\[\\] ]*?(\\w+)\\([^;]*\\) \\{$").matcher(line);
            if (head.find()) {
                method = head.group(1);
            }
            boolean makes = Pattern.compile("\\bnew\\b|\\bclone\\(|copyOf").matcher(line).find();
            must(!makes || Character.isUpperCase(method.charAt(0)), method + " makes no object: " + line.trim());
        }
    }
}
