import java.io.IOException;
import java.lang.reflect.Constructor;
import java.lang.reflect.Method;
import java.lang.reflect.Modifier;
import java.nio.file.Files;
import java.nio.file.Path;
import java.util.Arrays;
import java.util.List;
import java.util.TreeSet;
import java.util.regex.Matcher;
import java.util.regex.Pattern;

/** What of LANGUAGE.md and of the document's face can be seen from outside, and from the text of the program. */
public final class RulesTest {
    private static final Path PROGRAM = Path.of("src/main/java/FairquotaBroker.java");
    private static final Path DOCUMENT = Path.of("../shared/DOC.md");

    private static final List<String> FORBIDDEN = List.of(
            "->", "::", "\\bfinally\\b", "\\bsynchronized\\b", "\\bassert\\b", "\\binstanceof\\b", "\\bcatch\\b",
            "\\bpackage\\b", "\\bprotected\\b", "\\bstatic \\{", "\\bvar\\b", "\\bSystem\\.", "\\bObjects\\.",
            "Exact\\b", "\\bhashCode\\b", "\\btoString\\b", "\\bequals\\b", "\" \\+", "\\+ \"", "\\bthrows Exception");

    public static void main(String[] args) throws IOException {
        Check check = new Check();
        face(check);
        members(check, FairquotaBroker.class);
        String text = Files.readString(PROGRAM).replaceAll("(?s)/\\*.*?\\*/|//[^\n]*", "");
        for (String forbidden : FORBIDDEN) {
            check.is("the program holds " + forbidden, Pattern.compile(forbidden).matcher(text).find(), false);
        }
        imports(check, text);
        ascii(check, text);
        check.end("RulesTest");
    }

    /** The public methods, with the exceptions in their order, are those of the document. */
    private static void face(Check check) throws IOException {
        TreeSet<String> due = new TreeSet<>();
        String document = Files.readString(DOCUMENT);
        String face = document.substring(document.indexOf("```java"), document.indexOf("## Terms"));
        Matcher method = Pattern.compile("public (\\w+ \\w+)\\((.*?)\\)(?: throws (.*?))?;").matcher(face);
        while (method.find()) {
            String types = method.group(2).replaceAll("(\\w+) \\w+", "$1");
            String thrown = method.group(3) == null ? "" : method.group(3);
            due.add(method.group(1) + "(" + types + ") " + thrown);
        }
        TreeSet<String> got = new TreeSet<>();
        for (Method m : FairquotaBroker.class.getDeclaredMethods()) {
            if (Modifier.isPublic(m.getModifiers())) {
                got.add(m.getReturnType() + " " + m.getName() + "(" + names(m.getParameterTypes()) + ") "
                        + names(m.getExceptionTypes()));
            }
        }
        check.is("the number of methods", due.size(), 31);
        check.is("the face", got, due);
    }

    private static String names(Class<?>[] types) {
        return String.join(", ", Arrays.stream(types).map(Class::getSimpleName).toList());
    }

    private static void members(Check check, Class<?> program) {
        check.is("one constructor", program.getDeclaredConstructors().length, 1);
        for (Constructor<?> c : program.getDeclaredConstructors()) {
            check.is("public constructor", Modifier.isPublic(c.getModifiers()), true);
        }
        TreeSet<String> faceNames = new TreeSet<>();
        for (Method m : program.getMethods()) faceNames.add(m.getName());
        for (Method m : program.getDeclaredMethods()) {
            boolean open = Modifier.isPublic(m.getModifiers());
            check.is(m.getName() + " is public or private", open || Modifier.isPrivate(m.getModifiers()), true);
            check.is("parameters of " + m.getName(), m.getParameterCount() <= 7, true);
            if (!open) check.is(m.getName() + " names a call too", faceNames.contains(m.getName()), false);
        }
        for (java.lang.reflect.Field f : program.getDeclaredFields()) {
            check.is(f.getName() + " is private", Modifier.isPrivate(f.getModifiers()), true);
            boolean changing = Modifier.isStatic(f.getModifiers()) && !Modifier.isFinal(f.getModifiers());
            check.is(f.getName() + " is static state", changing, false);
        }
        check.is("at most twelve classes", program.getDeclaredClasses().length < 12, true);
        check.is("at most twenty fields", fieldsOf(program) <= 20, true);
        for (Class<?> inside : program.getDeclaredClasses()) {
            check.is(inside.getName() + " has at most twenty fields", fieldsOf(inside) <= 20, true);
            check.is(inside.getName() + " is static", Modifier.isStatic(inside.getModifiers()), true);
            for (Method m : inside.getDeclaredMethods()) {
                check.is(m.getName() + " names a call too", faceNames.contains(m.getName()), false);
            }
        }
    }

    private static long fieldsOf(Class<?> program) {
        return Arrays.stream(program.getDeclaredFields()).filter(f -> !Modifier.isStatic(f.getModifiers())).count();
    }

    private static void imports(Check check, String text) {
        TreeSet<String> got = new TreeSet<>();
        Matcher line = Pattern.compile("import (.*?);").matcher(text);
        while (line.find()) got.add(line.group(1));
        check.is("imports", got, new TreeSet<>(List.of("java.util.ArrayList", "java.util.NoSuchElementException")));
    }

    private static void ascii(Check check, String text) {
        check.is("signs are 1 to 127", text.chars().allMatch(c -> c >= 1 && c <= 127), true);
    }
}
