import java.io.IOException;
import java.lang.reflect.Constructor;
import java.lang.reflect.Field;
import java.lang.reflect.Method;
import java.lang.reflect.Modifier;
import java.nio.file.Files;
import java.nio.file.Path;
import java.util.Arrays;
import java.util.HashSet;
import java.util.List;
import java.util.Set;
import java.util.TreeSet;
import java.util.regex.Matcher;
import java.util.regex.Pattern;

/** The face of the document, and those rules of LANGUAGE.md that can be seen from the text or the classes. */
public final class LanguageTest {
    private static final Check CHECK = new Check("LanguageTest");
    private static final List<String> FACE = List.of(
        "int feed(int,int,int,int,int)", "int riddle(int,int,int)", "boolean rule(int,int)", "boolean form(int,int)",
        "boolean working(int,int)", "boolean patience(int,int,int)", "int hint(int,int,int)", "int fault()",
        "int where()", "int about(int,int)", "int takes(int,int)", "int steps(int,int)", "int make(int)",
        "int fits(int)", "int without(int,int)", "int follows(int,int)", "int out(int)", "int book(int)",
        "int team()", "int pass(int)", "int open(int,int)", "int guess(int,int,int)", "int buy(int,int)",
        "int teamOf(int,int)", "int told(int,int,int)", "int rank(int,int)", "int states(int)", "int shut(int)",
        "int shortest(int)", "int dead(int)", "int undo()", "int count(int)", "int trouble()");

    public static void main(String[] args) throws IOException {
        face();
        members();
        classesInside();
        source(Files.readString(Path.of("src/main/java/HuntHouse.java")));
        CHECK.end();
    }

    private static String shape(Method method) {
        StringBuilder text = new StringBuilder(method.getReturnType().getSimpleName()).append(' ').append(method.getName());
        text.append('(');
        for (int k = 0; k < method.getParameterCount(); k++) {
            text.append(k == 0 ? "" : ",").append(method.getParameterTypes()[k].getSimpleName());
        }
        return text.append(')').toString();
    }

    private static void face() {
        Set<String> got = new TreeSet<>();
        for (Method method : HuntHouse.class.getDeclaredMethods()) {
            if (Modifier.isPublic(method.getModifiers())) {
                got.add(shape(method));
            }
        }
        CHECK.due("the face has " + got, got.equals(new TreeSet<>(FACE)), true);
        CHECK.due("public and final", HuntHouse.class.getModifiers() & (Modifier.PUBLIC | Modifier.FINAL),
            Modifier.PUBLIC | Modifier.FINAL);
        CHECK.due("NONE", HuntHouse.NONE, -1);
    }

    private static void members() {
        Set<String> names = new HashSet<>();
        for (Method method : HuntHouse.class.getDeclaredMethods()) {
            if (Modifier.isPublic(method.getModifiers())) {
                names.add(method.getName());
            }
        }
        for (Method method : HuntHouse.class.getDeclaredMethods()) {
            int how = method.getModifiers();
            CHECK.due(method + " is public or private", Modifier.isPublic(how) || Modifier.isPrivate(how), true);
            CHECK.due(method + " is private and named as a public one",
                Modifier.isPrivate(how) && names.contains(method.getName()), false);
        }
        for (Class<?> inside : HuntHouse.class.getDeclaredClasses()) {
            for (Method method : inside.getDeclaredMethods()) {
                CHECK.due(method + " is named as a public one", names.contains(method.getName()), false);
            }
        }
        for (Field field : HuntHouse.class.getDeclaredFields()) {
            boolean isFace = field.getName().equals("NONE");
            CHECK.due(field + " is private", Modifier.isPrivate(field.getModifiers()), !isFace);
        }
        for (Constructor<?> made : HuntHouse.class.getDeclaredConstructors()) {
            CHECK.due(made + " is the public one", Modifier.isPublic(made.getModifiers())
                && made.getParameterCount() == 0, true);
        }
    }

    private static void classesInside() {
        Class<?>[] inside = HuntHouse.class.getDeclaredClasses();
        CHECK.due("classes: " + inside.length, inside.length + 1 <= 12, true);
        Class<?>[] all = Arrays.copyOf(inside, inside.length + 1);
        all[inside.length] = HuntHouse.class;
        for (Class<?> one : all) {
            int fields = 0;
            for (Field field : one.getDeclaredFields()) {
                int how = field.getModifiers();
                fields += Modifier.isStatic(how) ? 0 : 1;
                CHECK.due(field + " is static and not final", Modifier.isStatic(how) && !Modifier.isFinal(how), false);
            }
            CHECK.due(one + " has " + fields + " fields", fields <= 20, true);
            CHECK.due(one + " is static", one == HuntHouse.class || Modifier.isStatic(one.getModifiers()), true);
            for (Method method : one.getDeclaredMethods()) {
                CHECK.due(method + " takes at most seven", method.getParameterCount() <= 7, true);
            }
        }
    }

    private static void source(String text) {
        String bare = text.replaceAll("(?s)/\\*.*?\\*/", "").replaceAll("//[^\n]*", "")
            .replaceAll("\"[^\"\n]*\"", "\"\"").replaceAll("'[^'\n]*'", "' '");
        String[] none = {"->", "::", "\\btry\\b", "\\bcatch\\b", "\\bfinally\\b", "\\bsynchronized\\b", "\\bassert\\b",
            "\\bExact\\b", "\\bSystem\\.(?!arraycopy)", "\\bThread\\b", "\\bRandom\\b", "\\bString\\.", "\\.hashCode",
            "\\.equals\\(", "\\.toString", "\\bpackage\\b", "\\bnative\\b", "\\bvolatile\\b", "static \\{",
            "\"\"\\s*\\+", "\\+\\s*\"\"", "\\binstanceof\\b", "\\bdouble\\b", "\\bfloat\\b", "\\bvar\\b"};
        for (String one : none) {
            CHECK.due("the text has " + one, Pattern.compile(one).matcher(bare).find(), false);
        }
        Matcher imports = Pattern.compile("import ([^;]*);").matcher(bare);
        while (imports.find()) {
            CHECK.due(imports.group(1), List.of("java.util.Arrays", "java.util.NoSuchElementException")
                .contains(imports.group(1)), true);
        }
        Matcher thrown = Pattern.compile("throw\\s+([^;]*);").matcher(bare);
        int throwing = 0;
        while (thrown.find()) {
            throwing++;
            CHECK.due(thrown.group(1), thrown.group(1).equals("new NoSuchElementException()"), true);
        }
        CHECK.due("throws", throwing, 1);
        methodLengths(bare);
    }

    /** Methods stand at four or eight blanks and end at a brace of the same depth. */
    private static void methodLengths(String text) {
        String[] lines = text.split("\n");
        for (int k = 0; k < lines.length; k++) {
            Matcher head = Pattern.compile("^( {4}| {8})[a-z].*\\) (throws \\w+ )?\\{$").matcher(lines[k]);
            if (head.matches()) {
                int end = k;
                while (!lines[end].equals(head.group(1) + "}")) {
                    end++;
                }
                CHECK.due("lines of " + lines[k].trim(), end - k + 1 <= 60, true);
            }
        }
    }
}
