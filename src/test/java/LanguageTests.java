import java.io.IOException;
import java.lang.reflect.Array;
import java.lang.reflect.Constructor;
import java.lang.reflect.Field;
import java.lang.reflect.Method;
import java.lang.reflect.Modifier;
import java.nio.file.Files;
import java.nio.file.Path;
import java.util.Arrays;
import java.util.Collections;
import java.util.IdentityHashMap;
import java.util.Set;
import java.util.TreeSet;
import java.util.regex.Matcher;
import java.util.regex.Pattern;

/** The public face, the room that an object takes, and the rules that can be seen from the class and its text. */
public final class LanguageTests {
    private static final Path SOURCE = Path.of("src/main/java/TreeMachines.java");
    private static final int MOST_METHOD_LINES = 60;
    private static final String[] FACE = {
        "boolean rule(int,int,int,int,int)", "boolean drop(int,int,int,int,int)", "boolean isRule(int,int,int,int,int)",
        "boolean goal(int,int,boolean)", "boolean clear(int)", "int node(int,int,int)", "int nodes()",
        "int part(int,int)", "int reached(int,int)", "int place(int)", "int size(int)", "boolean included()",
        "int least(int)", "int witness(int)", "int terms(int,int)"};

    public static void main(String[] args) throws IOException {
        face();
        noOtherMember();
        nestedClasses();
        String code = withoutComments(Files.readString(SOURCE));
        words(code);
        methodLengths(code);
        room();
        Check.end();
    }

    private static void face() {
        Set<String> got = new TreeSet<>();
        for (Method method : TreeMachines.class.getDeclaredMethods()) {
            if (!Modifier.isPrivate(method.getModifiers())) {
                got.add(told(method));
                Check.due(method + " is public", Modifier.isPublic(method.getModifiers()), true);
                Check.due(method + " is static", Modifier.isStatic(method.getModifiers()), false);
            }
        }
        Set<String> want = new TreeSet<>(Arrays.asList(FACE));
        if (!got.equals(want)) {
            Check.fail("the face is " + got + ", due is " + want);
        }
        int modifiers = TreeMachines.class.getModifiers();
        Check.due("public class", Modifier.isPublic(modifiers), true);
        Check.due("final class", Modifier.isFinal(modifiers), true);
    }

    private static String told(Method method) {
        StringBuilder types = new StringBuilder();
        for (Class<?> type : method.getParameterTypes()) {
            types.append(types.length() == 0 ? "" : ",").append(type.getName());
        }
        return method.getReturnType().getName() + " " + method.getName() + "(" + types + ")";
    }

    private static void noOtherMember() {
        Constructor<?>[] constructors = TreeMachines.class.getDeclaredConstructors();
        Check.due("constructors", constructors.length, 1);
        Check.due("its parameters", constructors[0].getParameterCount(), 0);
        Check.due("public constructor", Modifier.isPublic(constructors[0].getModifiers()), true);
        for (Field field : TreeMachines.class.getDeclaredFields()) {
            Check.due(field + " is private", Modifier.isPrivate(field.getModifiers()), true);
        }
    }

    private static void nestedClasses() {
        Set<String> faceNames = new TreeSet<>();
        for (Method method : TreeMachines.class.getDeclaredMethods()) {
            if (Modifier.isPublic(method.getModifiers())) {
                faceNames.add(method.getName());
            }
        }
        Check.due("at most twelve classes", TreeMachines.class.getDeclaredClasses().length <= 11, true);
        for (Class<?> nested : TreeMachines.class.getDeclaredClasses()) {
            Check.due(nested + " is static", Modifier.isStatic(nested.getModifiers()), true);
            int own = 0;
            for (Field field : nested.getDeclaredFields()) {
                boolean isStatic = Modifier.isStatic(field.getModifiers());
                Check.due(field + " is final if static", !isStatic || Modifier.isFinal(field.getModifiers()), true);
                own += isStatic ? 0 : 1;
            }
            Check.due(nested + " has at most twenty fields", own <= 20, true);
            for (Method method : nested.getDeclaredMethods()) {
                Check.due(method + " has a name of the face", faceNames.contains(method.getName()), false);
                Check.due(method + " has at most seven parameters", method.getParameterCount() <= 7, true);
            }
        }
    }

    private static String withoutComments(String text) {
        return text.replaceAll("(?s)/\\*.*?\\*/", "").replaceAll("//[^\n]*", "");
    }

    private static void words(String code) {
        Matcher banned = Pattern.compile("\\b(throw|throws|try|catch|synchronized|assert|package|native|volatile)\\b"
                + "|->|::|\\bSystem\\.(?!arraycopy)|\\w+Exact\\b|@").matcher(code);
        while (banned.find()) {
            Check.fail("the program has " + banned.group());
        }
        Matcher imports = Pattern.compile("import ([^;]*);").matcher(code);
        while (imports.find()) {
            if (!imports.group(1).matches("java\\.util\\.(Arrays|ArrayList|List|Iterator)")) {
                Check.fail("the program imports " + imports.group(1));
            }
        }
        // What is made once in a constructor can't fill the room, however many calls there are.
        for (String line : code.split("\n")) {
            boolean inMethod = line.contains("new ") && !line.contains("final ")
                    && !line.matches(" {8}(machines|forest|leastTerms|counts) = .*");
            Check.due("makes an object in a call: " + line.trim(), inMethod, false);
        }
    }

    /** A method begins and ends at the same depth of indentation. */
    private static void methodLengths(String code) {
        String head = "(?m)^( {4}| {8})(?! )[\\w<>\\[\\] ]+\\([^;{]*\\) \\{\n";
        Matcher methods = Pattern.compile(head + "(.*\n)*?\\1\\}").matcher(code);
        int seen = 0;
        while (methods.find()) {
            seen++;
            int lines = methods.group().split("\n").length;
            if (lines > MOST_METHOD_LINES) {
                Check.fail("a method of " + lines + " lines: " + methods.group().substring(0, 60).trim());
            }
        }
        Check.due("methods were looked at", seen > FACE.length, true);
    }

    /** A run may make an object with every call, and all of them share the room. */
    private static void room() {
        TreeMachines x = new TreeMachines();
        Set<Object> seen = Collections.newSetFromMap(new IdentityHashMap<>());
        long fields = fieldsOf(x, seen);
        Check.due("512 times " + seen.size() + " objects fit", Run.MOST_CALLS * seen.size() <= 600_000, true);
        Check.due("512 times " + fields + " fields fit", Run.MOST_CALLS * fields <= 7_300_000, true);
    }

    /** How many fields and elements an object has, with all that it holds and that was not seen before. */
    private static long fieldsOf(Object holder, Set<Object> seen) {
        if (holder == null || !seen.add(holder)) {
            return 0;
        }
        if (holder.getClass().isArray()) {
            return Array.getLength(holder);
        }
        long sum = 0;
        for (Field field : holder.getClass().getDeclaredFields()) {
            if (!Modifier.isStatic(field.getModifiers())) {
                sum += 1 + (field.getType().isPrimitive() ? 0 : fieldsOf(valueOf(field, holder), seen));
            }
        }
        return sum;
    }

    private static Object valueOf(Field field, Object holder) {
        try {
            field.setAccessible(true);
            return field.get(holder);
        } catch (IllegalAccessException e) {
            throw new IllegalStateException(field + " can't be read", e);
        }
    }
}
