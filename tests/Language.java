import java.io.IOException;
import java.lang.reflect.Constructor;
import java.lang.reflect.Field;
import java.lang.reflect.Method;
import java.lang.reflect.Modifier;
import java.nio.file.Files;
import java.nio.file.Path;
import java.util.ArrayList;
import java.util.Arrays;
import java.util.List;
import java.util.TreeSet;
import java.util.regex.Matcher;
import java.util.regex.Pattern;

/** The document's face, and what LANGUAGE.md rules out and can be seen in the text or the class. */
public final class Language {
    private static final List<String> FACE = List.of("int feed(int, long)", "int row()", "int box(int, int)",
        "int size(int, int)", "int piece(int)", "int joint(int, int)", "int closes()", "int uses()", "int sign(int, int)",
        "int gap(int)", "int nearer(int, int)", "int table(int, int)", "int leg(int, int)", "int off()", "int touches()",
        "int lies()", "int rings(int, boolean)", "int ring(int, boolean, int)", "int most(boolean)", "int opens(int, boolean)",
        "int nearest(int)", "int turn(int)", "int photo()", "int image()", "int on()", "int count(int)");
    private static final List<String> FIXED = List.of("int", "long", "boolean", "char", "String", "int[]", "long[]", "char[]",
        "byte[]");
    private static int wrong = 0;

    public static void main(String[] args) throws IOException {
        String text = Files.readString(Path.of("src/main/java/TrackBox.java"));
        faceIsTheDocuments();
        List<Class<?>> classes = classesOf(TrackBox.class, new ArrayList<>());
        due(classes.size() <= 13, "classes: " + classes.size());
        for (Class<?> c : classes) {
            classKeepsToTheRules(c);
        }
        textKeepsToTheRules(text);
        if (wrong != 0) {
            System.exit(1);
        }
        System.out.println("the language holds");
    }

    private static void due(boolean holds, String words) {
        if (!holds) {
            wrong++;
            System.out.println("not of the language: " + words);
        }
    }

    private static void faceIsTheDocuments() {
        Class<?> c = TrackBox.class;
        due(Modifier.isPublic(c.getModifiers()) && Modifier.isFinal(c.getModifiers()), "a class that is not public and final");
        TreeSet<String> seen = new TreeSet<>();
        for (Method m : c.getDeclaredMethods()) {
            if (!Modifier.isPrivate(m.getModifiers())) {
                seen.add(faceOf(m));
                due(Modifier.isPublic(m.getModifiers()) && !Modifier.isStatic(m.getModifiers()), faceOf(m));
            }
        }
        due(seen.equals(new TreeSet<>(FACE)), "the face " + seen);
        Constructor<?>[] made = c.getDeclaredConstructors();
        due(made.length == 1 && made[0].getParameterCount() == 0 && Modifier.isPublic(made[0].getModifiers()), "constructors");
        for (Field f : c.getDeclaredFields()) {
            due(Modifier.isPrivate(f.getModifiers()), "field " + f.getName() + " that others see");
        }
    }

    private static String faceOf(Method m) {
        StringBuilder face = new StringBuilder(m.getReturnType().getSimpleName()).append(' ').append(m.getName()).append('(');
        for (Class<?> type : m.getParameterTypes()) {
            face.append(face.charAt(face.length() - 1) == '(' ? "" : ", ").append(type.getSimpleName());
        }
        return face.append(')').toString();
    }

    private static List<Class<?>> classesOf(Class<?> c, List<Class<?>> all) {
        all.add(c);
        for (Class<?> inside : c.getDeclaredClasses()) {
            due(Modifier.isStatic(inside.getModifiers()), "class " + inside.getName() + " that is not static");
            due(!Modifier.isPublic(inside.getModifiers()) && !Modifier.isProtected(inside.getModifiers()),
                "class " + inside.getName() + " that is public");
            classesOf(inside, all);
        }
        return all;
    }

    private static void classKeepsToTheRules(Class<?> c) {
        int fields = 0;
        for (Field f : c.getDeclaredFields()) {
            boolean fixed = Modifier.isStatic(f.getModifiers());
            String type = f.getType().getSimpleName();
            fields += fixed ? 0 : 1;
            due(!fixed || Modifier.isFinal(f.getModifiers()), "static field " + f.getName() + " that is not final");
            due(!fixed || c.isEnum() || FIXED.contains(type), "static field " + f.getName() + " of " + type);
        }
        due(fields <= 22, fields + " fields in " + c.getName());
        for (Method m : c.getDeclaredMethods()) {
            boolean named = Arrays.stream(TrackBox.class.getMethods()).anyMatch(o -> o.getName().equals(m.getName()));
            due(!Modifier.isPrivate(m.getModifiers()) || !named, "private method " + m.getName() + " of a public one's name");
            due(m.getParameterCount() <= 7, m.getName() + " of " + m.getParameterCount() + " parameters");
            due(!m.getName().startsWith("lambda$"), "a lambda: " + m.getName());
        }
    }

    private static void textKeepsToTheRules(String text) {
        String code = text.replaceAll("(?s)/\\*.*?\\*/", "").replaceAll("//[^\n]*", "");
        none(code, "\\b(throw|throws|try|catch|finally|synchronized|assert|package)\\b");
        none(code, "(?m)^(?!\\s*(case|default)\\b).*->|::");
        none(code, "\\bSystem\\.(?!arraycopy\\b)\\w+|\\w+Exact\\b|\\bstatic \\{");
        none(code, "import (?!java\\.util\\.(Arrays|ArrayList|List|Iterator);).*");
        none(code, "\\b(int hashCode|boolean equals|String toString)\\(");
        none(code, "\\bnew [\\w<>]+\\([^;{}]*\\) \\{");
        none(code, "[^\\x00-\\x7f]");
        methodsAreShort(code);
    }

    private static void none(String code, String pattern) {
        Matcher found = Pattern.compile(pattern).matcher(code);
        while (found.find()) {
            due(false, found.group());
        }
    }

    private static void methodsAreShort(String code) {
        String method = "(?ms)^( {4}| {8})(?! |private static final class)(?:\\w|\\[\\]| )+\\(([^)]*)\\) \\{\n(.*?)^\\1\\}";
        Matcher found = Pattern.compile(method).matcher(code);
        while (found.find()) {
            int lines = found.group(3).split("\n").length;
            due(lines <= 66, "a method too long: " + found.group().split("\n")[0]);
        }
    }
}
