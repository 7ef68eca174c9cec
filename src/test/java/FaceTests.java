import java.lang.reflect.Constructor;
import java.lang.reflect.Field;
import java.lang.reflect.Method;
import java.lang.reflect.Modifier;
import java.nio.file.Files;
import java.nio.file.Path;
import java.util.List;
import java.util.Set;
import java.util.TreeSet;
import java.util.regex.Matcher;
import java.util.regex.Pattern;

/** The face of the class, and those rules of LANGUAGE.md that can be seen from outside or from single words. */
public final class FaceTests {
    private static final Path SOURCE = Path.of("src/main/java/SnapRows.java");
    private static final String[] FACE = {"begin 1", "read 3", "next 2", "write 4", "commit 1", "step 1", "crash 1", "tick 1",
        "timeout 1", "fallOracle 0", "fall 0", "sweep 1", "state 2", "lock 3", "versions 2", "version 4", "data 3", "told 1"};
    private static int wrong = 0;

    public static void main(String[] args) throws Exception {
        face();
        classesInside();
        words(Files.readString(SOURCE));
        library(Files.readString(SOURCE));
        methodsAreShort(Files.readAllLines(SOURCE));
        System.out.println(wrong == 0 ? "the face is as due" : wrong + " faults");
        if (wrong != 0) {
            System.exit(1);
        }
    }

    private static void hold(boolean good, String text) {
        if (!good) {
            wrong++;
            System.out.println(text);
        }
    }

    private static void face() {
        hold(Modifier.isPublic(SnapRows.class.getModifiers()), "the class is not public");
        hold(Modifier.isFinal(SnapRows.class.getModifiers()), "the class is not final");
        Constructor<?>[] made = SnapRows.class.getDeclaredConstructors();
        hold(made.length == 1 && made[0].getParameterCount() == 0 && Modifier.isPublic(made[0].getModifiers()),
            "the constructor is another one");
        Set<String> names = new TreeSet<>();
        for (Method m : SnapRows.class.getDeclaredMethods()) {
            if (!Modifier.isPrivate(m.getModifiers())) {
                names.add(m.getName() + " " + m.getParameterCount());
                hold(m.getReturnType() == int.class, m.getName() + " does not answer an int");
            }
        }
        hold(names.equals(new TreeSet<>(Set.of(FACE))), "the methods are others: " + names);
        for (Method m : SnapRows.class.getDeclaredMethods()) {
            hold(!Modifier.isPrivate(m.getModifiers()) || !isOfTheFace(m), "a private method has the name " + m.getName());
        }
        fields(SnapRows.class, true);
    }

    private static boolean isOfTheFace(Method m) {
        for (String name : FACE) {
            if (name.startsWith(m.getName() + " ")) {
                return true;
            }
        }
        return false;
    }

    private static void fields(Class<?> c, boolean allPrivate) {
        int own = 0;
        for (Field f : c.getDeclaredFields()) {
            int m = f.getModifiers();
            hold(!allPrivate || Modifier.isPrivate(m), "a field is not private: " + f);
            hold(!Modifier.isStatic(m) || Modifier.isFinal(m), "a static field is not final: " + f);
            own += Modifier.isStatic(m) ? 0 : 1;
        }
        hold(own <= 20, c + " has " + own + " fields");
    }

    private static void classesInside() {
        Class<?>[] inside = SnapRows.class.getDeclaredClasses();
        hold(inside.length <= 11, "there are " + inside.length + " classes inside");
        for (Class<?> c : inside) {
            int m = c.getModifiers();
            hold(Modifier.isStatic(m), c + " is not static");
            hold(!Modifier.isPublic(m) && !Modifier.isProtected(m), c + " can be seen from outside");
            fields(c, false);
            for (Method method : c.getDeclaredMethods()) {
                hold(!isOfTheFace(method), c + " has a method with the name " + method.getName());
                hold(method.getParameterCount() <= 7, method + " takes too many parameters");
            }
        }
    }

    private static String withoutComments(String source) {
        return source.replaceAll("(?s)/\\*.*?\\*/", "").replaceAll("//[^\n]*", "");
    }

    private static void words(String source) {
        String code = withoutComments(source);
        Matcher m = Pattern.compile("\\b(import|package|throw|throws|try|catch|finally|synchronized|assert|hashCode|toString"
            + "|HashMap|Random|System\\.(?!arraycopy)\\w+|Thread|\\w+Exact)\\b|->|::").matcher(code);
        while (m.find()) {
            hold(false, "the program has the word " + m.group());
        }
        hold(source.chars().allMatch(c -> c < 256), "a character above 255");
    }

    /** The program needs nothing of the library, so every class that it names is its own. */
    private static void library(String source) {
        Set<String> own = new TreeSet<>(Set.of("SnapRows"));
        for (Class<?> c : SnapRows.class.getDeclaredClasses()) {
            own.add(c.getSimpleName());
        }
        Matcher m = Pattern.compile("\\b[A-Z][A-Za-z]*[a-z][A-Za-z]*\\b").matcher(withoutComments(source));
        while (m.find()) {
            hold(own.contains(m.group()), "the program uses " + m.group());
        }
    }

    /** By indents: a method ends with the brace that stands where its first line begins. */
    private static void methodsAreShort(List<String> lines) {
        Pattern head = Pattern.compile("( {4}| {8})(?!.*\\bclass\\b)\\w.*\\) \\{");
        int methods = 0;
        for (int i = 0; i < lines.size(); i++) {
            Matcher m = head.matcher(lines.get(i));
            if (m.matches() && !m.group().trim().matches("(if|for|while|switch|else)\\b.*")) {
                int end = i + lines.subList(i, lines.size()).indexOf(m.group(1) + "}");
                hold(end > i && end - i < 60, "too long, or without an end: " + lines.get(i));
                methods++;
            }
        }
        hold(methods > FACE.length, "only " + methods + " methods were found");
    }
}
