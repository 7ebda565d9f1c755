import java.io.IOException;
import java.lang.reflect.Constructor;
import java.lang.reflect.Field;
import java.lang.reflect.Method;
import java.lang.reflect.Modifier;
import java.nio.file.Files;
import java.nio.file.Path;
import java.util.Arrays;
import java.util.Set;
import java.util.TreeSet;
import java.util.regex.Matcher;
import java.util.regex.Pattern;

/** The public face, and those rules of LANGUAGE.md that can be seen in the class and in its text. */
public final class FaceAndLanguageTest {
    private static final String[] FACE = {
        "int known(int,int)", "int word(int,int,int)", "int hold(int,int)", "int of(int,int)", "int show(int)",
        "int feed(int,int)", "int rule(int)", "int judge(int)", "int meets(int,int,int,int)", "int heard(int,int,int)",
        "int why(int,int,int)", "int least(int,int,int,int)", "int ends(int,int)", "int cut(int,int,int,int)",
        "int opened(int,int)", "int proved(int)", "int needed(int,int)", "int plan(int,int,int)",
        "int clash(int,int,int)", "int silent(int,int)", "int hangs(int)", "int most()", "int beside(int,int)",
        "int way(int,int,int,int,int)", "int act(int,int,int)", "int trace(int)", "int taken(int,int)",
        "int count(int)", "int tape(int,int,int)", "int item(int,int,long)", "long read(int,int)",
        "int shift(int,int,int,int,int)"};

    private static final Set<String> LIBRARY = Set.of("bitCount", "numberOfTrailingZeros", "max", "copyOf", "fill",
        "arraycopy", "size", "get", "add", "remove", "isEmpty", "clear", "length", "charAt", "indexOf");

    private FaceAndLanguageTest() {
    }

    public static void main(String[] args) throws IOException {
        constants();
        face();
        members();
        text(Files.readString(Path.of("src/main/java/HeardWords.java")));
        Due.finish();
    }

    private static void constants() {
        Due.due("NONE", HeardWords.NONE, -1);
        Due.due("BAD", HeardWords.BAD, -2);
        Due.due("STATE", HeardWords.STATE, -3);
        Due.due("FULL", HeardWords.FULL, -4);
        Due.due("NO", HeardWords.NO, Long.MIN_VALUE);
    }

    private static String told(Method m) {
        StringBuilder s = new StringBuilder(m.getReturnType() + " " + m.getName() + "(");
        for (Class<?> type : m.getParameterTypes()) {
            s.append(s.charAt(s.length() - 1) == '(' ? "" : ",").append(type);
        }
        return s.append(')').toString();
    }

    private static void yes(String what, boolean holds) {
        Due.due(what, holds ? 1 : 0, 1);
    }

    private static void face() {
        Set<String> methods = new TreeSet<>();
        Set<String> names = new TreeSet<>();
        for (Method m : HeardWords.class.getDeclaredMethods()) {
            if (Modifier.isPublic(m.getModifiers())) {
                methods.add(told(m));
                names.add(m.getName());
            } else {
                yes(m + " is private", Modifier.isPrivate(m.getModifiers()));
            }
        }
        yes("the public methods " + methods, methods.equals(new TreeSet<>(Arrays.asList(FACE))));
        for (Class<?> inside : HeardWords.class.getDeclaredClasses()) {
            yes(inside + " is static and not public", Modifier.isStatic(inside.getModifiers())
                && !Modifier.isPublic(inside.getModifiers()));
            for (Method m : inside.getDeclaredMethods()) {
                yes(m + " bears no name of the face", !names.contains(m.getName()));
            }
        }
        for (Method m : HeardWords.class.getDeclaredMethods()) {
            boolean isPrivate = Modifier.isPrivate(m.getModifiers());
            yes(m + " bears no name of the face", !isPrivate || !names.contains(m.getName()));
            yes(m + " takes seven at most", m.getParameterCount() <= 7);
        }
        int modifiers = HeardWords.class.getModifiers();
        yes("the class is public and final", Modifier.isPublic(modifiers) && Modifier.isFinal(modifiers));
        for (Constructor<?> c : HeardWords.class.getDeclaredConstructors()) {
            yes(c + " is public and takes nothing", Modifier.isPublic(c.getModifiers()) && c.getParameterCount() == 0);
        }
        yes("some twelve classes", HeardWords.class.getDeclaredClasses().length < 12);
    }

    private static void members() {
        Set<String> constants = new TreeSet<>();
        int fields = 0;
        for (Field f : HeardWords.class.getDeclaredFields()) {
            int m = f.getModifiers();
            yes(f + " is a final constant or no static", !Modifier.isStatic(m) || Modifier.isFinal(m));
            fields += Modifier.isStatic(m) ? 0 : 1;
            if (!Modifier.isPrivate(m)) {
                constants.add(f.getName());
                yes(f + " is a public constant", Modifier.isPublic(m) && Modifier.isStatic(m));
            }
        }
        yes("the constants " + constants, constants.equals(Set.of("NONE", "BAD", "STATE", "FULL", "NO")));
        yes("some twenty fields", fields <= 20);
    }

    private static void text(String source) {
        String code = source.replaceAll("(?s)/\\*.*?\\*/", "").replaceAll("//[^\n]*", "");
        for (String word : new String[] {"throw", "try", "catch", "synchronized", "assert", "package", "static \\{",
            "->", "::", "instanceof", "System\\.out", "Exact", "\\byield\\b", "new Random", "nanoTime",
            "currentTimeMillis", "hashCode", "toString", "\\bvar\\b", "\" \\+", "\\+ \""}) {
            yes("no " + word, !Pattern.compile(word).matcher(code).find());
        }
        for (int i = 0; i < source.length(); i++) {
            if (source.charAt(i) < 1 || source.charAt(i) > 127) {
                yes("a sign of the text at " + i, false);
            }
        }
        Matcher imports = Pattern.compile("import ([^;]*);").matcher(source);
        while (imports.find()) {
            yes("import " + imports.group(1), Set.of("java.util.ArrayList", "java.util.Arrays").contains(imports.group(1)));
        }
        Matcher calls = Pattern.compile("\\b(Integer|Long|Math|Arrays|System)\\.(\\w+)").matcher(code);
        while (calls.find()) {
            String called = calls.group(2);
            yes("the library's " + called, LIBRARY.contains(called) || called.startsWith("M"));
        }
        methodsAreShort(code);
    }

    private static void methodsAreShort(String code) {
        int start = 0;
        String[] lines = code.split("\n");
        for (int i = 0; i < lines.length; i++) {
            if (lines[i].matches("( {4}| {8})(public |private )?[\\w\\[\\]<> ]+\\(.*\\{")) {
                start = i;
            }
            if (lines[i].matches(" {4}( {4})?}")) {
                yes("the method that ends in line " + i + " is short", i - start <= 60 || lines[i].equals("    }"));
            }
        }
    }
}
