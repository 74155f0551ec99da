import java.io.IOException;
import java.io.UncheckedIOException;
import java.lang.management.ManagementFactory;
import java.lang.reflect.Field;
import java.lang.reflect.Method;
import java.lang.reflect.Modifier;
import java.nio.file.Files;
import java.nio.file.Path;
import java.util.ArrayList;
import java.util.List;
import java.util.TreeSet;
import java.util.regex.Pattern;
import java.util.stream.Collectors;
import java.util.stream.Stream;

/** What can be looked at of ../shared/LANGUAGE.md without reading the program by eye. */
final class RulesOfTheLanguage {
    private static final Path SOURCE = Path.of("src/main/java/TaskSheets.java");

    private RulesOfTheLanguage() {
    }

    static void run() {
        Due.test("rule 1: the face is the document's", RulesOfTheLanguage::face);
        Due.test("rules 2 to 6, 13: nothing stands in the source that they rule out", RulesOfTheLanguage::source);
        Due.test("rules 5 and 11: static fields, parameters, classes and fields", RulesOfTheLanguage::sizes);
        Due.test("rule 12: what a run makes", RulesOfTheLanguage::made);
    }

    private static String read(Path path) {
        try {
            return Files.readString(path);
        } catch (IOException e) {
            throw new UncheckedIOException(e);
        }
    }

    private static void face() {
        Pattern method = Pattern.compile("    public (int|long|double) (\\w+)\\((.*)\\)( throws .*)?;");
        TreeSet<String> due = Document.whole().lines().map(method::matcher).filter(m -> m.matches())
            .map(m -> m.group(1) + " " + m.group(2) + "(" + m.group(3).replaceAll("int \\w+", "int") + ")"
                + (m.group(4) == null ? "" : m.group(4)))
            .collect(Collectors.toCollection(TreeSet::new));
        TreeSet<String> got = Stream.of(TaskSheets.class.getDeclaredMethods())
            .filter(m -> !Modifier.isPrivate(m.getModifiers())).map(RulesOfTheLanguage::told)
            .collect(Collectors.toCollection(TreeSet::new));
        Due.is("methods in the document", due.size(), 27);
        Due.equal("the methods of the face", String.join("\n", got), String.join("\n", due));
        Due.is("constructors", TaskSheets.class.getDeclaredConstructors().length, 1);
        Due.isTrue("public and final", TaskSheets.class.getModifiers() == (Modifier.PUBLIC | Modifier.FINAL));
        for (Field field : TaskSheets.class.getDeclaredFields()) {
            Due.isTrue("the field " + field.getName() + " is NONE or private",
                Modifier.isPrivate(field.getModifiers()) || field.getName().equals("NONE"));
        }
        TreeSet<String> names = due.stream().map(s -> s.substring(s.indexOf(' ') + 1, s.indexOf('(')))
            .collect(Collectors.toCollection(TreeSet::new));
        for (Class<?> type : classes()) {
            for (Method m : type.getDeclaredMethods()) {
                Due.isTrue("no private method bears the name " + m.getName(),
                    !Modifier.isPrivate(m.getModifiers()) || !names.contains(m.getName()));
            }
        }
    }

    private static String told(Method m) {
        String parameters = Stream.of(m.getParameterTypes()).map(Class::getName).collect(Collectors.joining(", "));
        String exceptions = Stream.of(m.getExceptionTypes()).map(Class::getSimpleName).collect(Collectors.joining(", "));
        return m.getReturnType().getName() + " " + m.getName() + "(" + parameters + ")"
            + (exceptions.isEmpty() ? "" : " throws " + exceptions);
    }

    private static List<Class<?>> classes() {
        List<Class<?>> classes = new ArrayList<>(List.of(TaskSheets.class.getDeclaredClasses()));
        classes.add(TaskSheets.class);
        return classes;
    }

    private static void source() {
        String code = read(SOURCE).replaceAll("(?s)/\\*.*?\\*/", "").replaceAll("//[^\n]*", "")
            .replaceAll("\"[^\"]*\"", "\"\"");
        String[] banned = {"\\bimport\\b", "\\bpackage\\b", "\\btry\\b", "\\bcatch\\b", "\\bfinally\\b", "\\bassert\\b",
            "\\bsynchronized\\b", "->", "::", "\\bString\\b", "\\bSystem\\b", "\\bThread\\b", "\\bRandom\\b", "\\bobject\\b",
            "\\bgoto\\b", "Exact\\b", "\\bstatic \\{", "\\bprotected\\b", "\\bvolatile\\b", "\\btransient\\b",
            "\\bnative\\b", "\\bhashCode\\b", "\\bequals\\b", "\\btoString\\b", "\\bwhile \\(true\\)", "for \\(;;"};
        for (String word : banned) {
            Due.isTrue("the source is without " + word, !Pattern.compile(word).matcher(code).find());
        }
        Due.isTrue("signs 1 to 127", read(SOURCE).chars().allMatch(c -> c >= 1 && c <= 127));
        Pattern thrown = Pattern.compile("throw (?!new (IllegalArgument|IllegalState|IndexOutOfBounds)Exception\\(\"\"\\);)");
        Due.isTrue("exceptions are those of the document", !thrown.matcher(code).find());
        Due.isTrue("one public class", code.split("\\bclass ").length - 1 == classes().size());
    }

    private static void sizes() {
        Due.isTrue("some twelve classes", classes().size() <= 12);
        for (Class<?> type : classes()) {
            int fields = 0;
            for (Field field : type.getDeclaredFields()) {
                boolean isStatic = Modifier.isStatic(field.getModifiers());
                fields += isStatic ? 0 : 1;
                Due.isTrue(field.getName() + " is final if it is static",
                    !isStatic || Modifier.isFinal(field.getModifiers()));
            }
            Due.isTrue(type.getSimpleName() + " has some twenty fields", fields <= 20);
            Due.isTrue(type.getSimpleName() + " is static or the outer one",
                type == TaskSheets.class || Modifier.isStatic(type.getModifiers()));
            for (Method m : type.getDeclaredMethods()) {
                Due.isTrue(m.getName() + " has at most seven parameters", m.getParameterCount() <= 7);
            }
        }
    }

    /** A full plan and the dearest calls: what is made is made in the constructor. */
    private static void made() {
        com.sun.management.ThreadMXBean threads = (com.sun.management.ThreadMXBean) ManagementFactory.getThreadMXBean();
        dearestRun();
        long before = threads.getCurrentThreadAllocatedBytes();
        dearestRun();
        long bytes = threads.getCurrentThreadAllocatedBytes() - before;
        Due.isTrue("a run makes " + bytes + " bytes, at most 100,000 are due", bytes <= 100_000);
    }

    private static void dearestRun() {
        TaskSheets x = new TaskSheets();
        x.set(0, 3);
        x.set(1, 5);
        for (int n = 0; n < 24; n++) {
            x.addTask(n % 6, n * 8, 60);
        }
        for (int n = 0; n < 23; n++) {
            x.addArrow(n, n + 1);
        }
        for (int n = 0; n < 15; n++) {
            x.append("t0,0,1;".charAt(n % 7));
        }
        for (int n = 0; n < 60; n++) {
            x.digest();
            x.sheetsWith(3, 5);
            x.fewestExits();
            x.longestChain();
            x.parse();
            x.undo();
            x.move(n % 24, n, 60);
        }
    }
}
