import java.io.IOException;
import java.lang.reflect.Constructor;
import java.lang.reflect.Field;
import java.lang.reflect.Method;
import java.lang.reflect.Modifier;
import java.nio.file.Files;
import java.nio.file.Path;
import java.util.Arrays;
import java.util.Set;
import java.util.TreeSet;
import java.util.regex.Matcher;
import java.util.regex.Pattern;

/** The public face, and those rules of LANGUAGE.md that can be read from the file or the class. */
public final class LanguageTest {
    private static final String[] FACE = {
        "int open(int)", "int alloc(int)", "int aligned(int, int)", "int free(int)", "int resize(int, int)",
        "int grow(int)", "int size(int)", "int put(int, int, long)", "long word(int)", "int spoil(int, long)",
        "int check()", "int where()", "int classOf(int, boolean)", "int listed(int, int)", "int bits(int)",
        "int block(int, int)", "int found(int)", "int count(int)"};
    private static final String[] CONSTANTS = {"NONE", "BAD", "SPOILT", "FULL"};
    private static final String[] NOT_ALLOWED = {
        "\\bthrow\\b", "\\bthrows\\b", "\\btry\\b", "\\bcatch\\b", "\\bsynchronized\\b", "\\bassert\\b", "->", "::",
        "\\w*Exact\\b", "\\bpackage\\b", "\\bwhile\\s*\\(\\s*true\\b", "for\\s*\\(\\s*;", "\\bprotected\\b",
        "\\bhashCode\\b", "\\btoString\\b", "\\bSystem\\.(?!arraycopy)", "\\bRandom\\b", "\\bThread\\b"};

    private static int wrong = 0;

    private static void due(boolean holds, String rule) {
        if (!holds) {
            wrong++;
            System.out.println("not so: " + rule);
        }
    }

    private static String told(Method m) {
        StringBuilder text = new StringBuilder(m.getReturnType().getSimpleName() + " " + m.getName() + "(");
        Class<?>[] types = m.getParameterTypes();
        for (int i = 0; i < types.length; i++) {
            text.append(i > 0 ? ", " : "").append(types[i].getSimpleName());
        }
        return text.append(")").toString();
    }

    private static void face() {
        Class<?> c = TwoLevels.class;
        due(Modifier.isPublic(c.getModifiers()) && Modifier.isFinal(c.getModifiers()), "1: public and final");
        Set<String> methods = new TreeSet<>();
        for (Method m : c.getDeclaredMethods()) {
            if (Modifier.isPublic(m.getModifiers())) {
                methods.add(told(m));
            } else {
                due(m.isSynthetic() || Modifier.isPrivate(m.getModifiers()), "1: " + m.getName() + " is private");
            }
        }
        due(methods.equals(new TreeSet<>(Arrays.asList(FACE))), "1: the methods of the face, not " + methods);
        Set<String> constants = new TreeSet<>();
        for (Field f : c.getDeclaredFields()) {
            if (Modifier.isPublic(f.getModifiers())) {
                constants.add(f.getName());
            } else {
                due(Modifier.isPrivate(f.getModifiers()), "1: " + f.getName() + " is private");
            }
        }
        due(constants.equals(new TreeSet<>(Arrays.asList(CONSTANTS))), "1: the constants, not " + constants);
        Constructor<?>[] made = c.getDeclaredConstructors();
        due(made.length == 1 && made[0].getParameterCount() == 0 && Modifier.isPublic(made[0].getModifiers()),
            "1: one public constructor");
    }

    private static void members(Class<?> c) {
        int fields = 0;
        for (Field f : c.getDeclaredFields()) {
            boolean isStatic = Modifier.isStatic(f.getModifiers());
            fields += isStatic ? 0 : 1;
            due(!isStatic || Modifier.isFinal(f.getModifiers()), "5: " + f.getName() + " is final");
            due(!isStatic || f.getType() == int.class, "5: " + f.getName() + " is an int");
        }
        due(fields <= 20, "11: fields of " + c.getName());
        for (Method m : c.getDeclaredMethods()) {
            due(m.getParameterCount() <= 7, "11: parameters of " + m.getName());
            for (String call : FACE) {
                boolean same = call.contains(" " + m.getName() + "(");
                due(!same || c == TwoLevels.class && Modifier.isPublic(m.getModifiers()),
                    "1: only the public method is named " + m.getName());
            }
        }
        due(c.getDeclaredClasses().length <= 11, "11: classes");
        for (Class<?> inside : c.getDeclaredClasses()) {
            due(Modifier.isStatic(inside.getModifiers()), "2: " + inside.getName() + " is static");
            due(!Modifier.isPublic(inside.getModifiers()), "1: " + inside.getName() + " is not public");
            members(inside);
        }
    }

    private static void text(String source) {
        String code = source.replaceAll("(?s)/\\*.*?\\*/", "").replaceAll("//[^\n]*", "");
        for (String pattern : NOT_ALLOWED) {
            Matcher m = Pattern.compile(pattern).matcher(code);
            due(!m.find(), "the file has no " + pattern);
        }
        for (String line : code.split("\n")) {
            if (line.startsWith("import ")) {
                due(line.equals("import java.util.Arrays;"), "4: " + line);
            }
        }
        // made once for each object, and used again: three parts and three rows
        int made = code.split("\\bnew\\b", -1).length - 1;
        due(made == 6, "12: " + made + " places make something");
    }

    public static void main(String[] args) throws IOException {
        face();
        members(TwoLevels.class);
        Path root = Path.of(args.length > 0 ? args[0] : ".");
        text(Files.readString(root.resolve("src/main/java/TwoLevels.java")));
        System.out.println(wrong == 0 ? "the rules are kept" : wrong + " rules are not kept");
        if (wrong != 0) {
            System.exit(1);
        }
    }
}
