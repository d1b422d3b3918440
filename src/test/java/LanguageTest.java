import java.io.IOException;
import java.lang.management.ManagementFactory;
import java.lang.reflect.Field;
import java.lang.reflect.Method;
import java.lang.reflect.Modifier;
import java.nio.file.Files;
import java.nio.file.Path;
import java.util.ArrayList;
import java.util.HashSet;
import java.util.List;
import java.util.Set;
import java.util.TreeSet;
import java.util.regex.Matcher;
import java.util.regex.Pattern;

/** The document's face, and those rules of LANGUAGE.md that a machine can look at. */
public final class LanguageTest {
    private static final String[] FACE = {
        "feed 1", "end 1", "text 0", "fault 0", "rule 1", "cell 3", "column 1", "seen 2", "weak 1", "hidden 3",
        "sure 1", "hides 1", "watched 0", "best 0", "set 3", "put 2", "out 1", "draw 1", "want 3", "brought 3",
        "seed 1", "signature 0", "alias 1", "suspects 1", "dump 2", "clear 1", "keep 1", "back 1", "differs 2",
        "sheet 3", "lay 3", "read 4", "torn 0", "count 1"};
    private static final String[] FORBIDDEN = {
        "throw", "try", "catch", "synchronized", "assert", "static \\{", "->", "::", "Exact\\(", "System\\.(?!arraycopy)",
        "Object\\b", "Math\\.random", "instanceof", "@", "\\bnull\\b"};

    public static void main(String[] args) throws IOException {
        Check check = new Check("LanguageTest");
        face(check);
        members(check);
        source(check, Files.readString(Path.of("src/main/java/SqueezedAnswers.java")));
        room(check);
        check.finish();
    }

    private static void face(Check check) {
        Set<String> methods = new TreeSet<>();
        for (Method m : SqueezedAnswers.class.getDeclaredMethods()) {
            if (!Modifier.isPrivate(m.getModifiers())) {
                check.that(m + " is public and answers an int",
                    Modifier.isPublic(m.getModifiers()) && !Modifier.isStatic(m.getModifiers()) && m.getReturnType() == int.class);
                methods.add(m.getName() + " " + m.getParameterCount());
            }
        }
        check.that("the methods of the face are " + methods, methods.equals(new TreeSet<>(List.of(FACE))));
        check.due("public constructors", SqueezedAnswers.class.getConstructors().length, 1);
        check.due("constructors", SqueezedAnswers.class.getDeclaredConstructors().length, 1);
        check.that("the class is final", Modifier.isFinal(SqueezedAnswers.class.getModifiers()));
        Set<String> constants = new TreeSet<>();
        for (Field f : SqueezedAnswers.class.getDeclaredFields()) {
            if (!Modifier.isPrivate(f.getModifiers())) {
                constants.add(f.getName());
            }
        }
        check.that("the constants are " + constants, constants.equals(Set.of("BAD", "STATE", "FULL", "NONE")));
        check.due("BAD", SqueezedAnswers.BAD, -1);
        check.due("STATE", SqueezedAnswers.STATE, -2);
        check.due("FULL", SqueezedAnswers.FULL, -3);
        check.due("NONE", SqueezedAnswers.NONE, -4);
    }

    private static void members(Check check) {
        List<Class<?>> all = new ArrayList<>(List.of(SqueezedAnswers.class.getDeclaredClasses()));
        check.that("at most twelve classes", all.size() < 12);
        for (Class<?> one : all) {
            check.that(one + " is static and not public",
                Modifier.isStatic(one.getModifiers()) && !Modifier.isPublic(one.getModifiers()));
        }
        all.add(SqueezedAnswers.class);
        Set<String> names = new HashSet<>();
        for (String method : FACE) {
            names.add(method.substring(0, method.indexOf(' ')));
        }
        for (Class<?> one : all) {
            int fields = 0;
            for (Field f : one.getDeclaredFields()) {
                boolean isStatic = Modifier.isStatic(f.getModifiers());
                check.that(f + " is no static state", !isStatic || Modifier.isFinal(f.getModifiers()) && f.getType() == int.class);
                fields += isStatic ? 0 : 1;
            }
            check.that(one + " has at most twenty fields", fields <= 20);
            for (Method m : one.getDeclaredMethods()) {
                check.that(m + " takes at most seven", m.getParameterCount() <= 7);
                check.that(m + " has a name of its own", Modifier.isPublic(m.getModifiers()) || !names.contains(m.getName()));
            }
        }
    }

    private static void source(Check check, String whole) {
        for (int i = 0; i < whole.length(); i++) {
            if (whole.charAt(i) > 126) {
                check.due("sign at " + i, whole.charAt(i), 126);
            }
        }
        String code = whole.replaceAll("(?s)/\\*.*?\\*/", "").replaceAll("//[^\n]*", "");
        for (String word : FORBIDDEN) {
            String pattern = Character.isLetter(word.charAt(0)) ? "\\b" + word : word;
            Matcher found = Pattern.compile(pattern).matcher(code);
            check.that("none of " + word, !found.find());
        }
        Matcher imports = Pattern.compile("import [^;]*;").matcher(code);
        while (imports.find()) {
            check.that(imports.group(), imports.group().equals("import java.util.Arrays;"));
        }
        int length = 0;
        for (String line : code.split("\n")) {
            length = line.matches(" {4,8}(?! )[^;]*\\) \\{") ? 0 : length + 1;
            if (line.matches(" {4,8}}")) {
                check.that("a method is short, up to " + line, length <= 60);
            }
            check.that("a line is short: " + line, line.length() <= 120);
        }
    }

    /** All calls share one room: behind the constructor nothing is made any more. */
    private static void room(Check check) {
        com.sun.management.ThreadMXBean threads = (com.sun.management.ThreadMXBean) ManagementFactory.getThreadMXBean();
        String text = "chip 8 8 8;register 12 4095;poly 255;column 7 0 1 2 3 4 5 6 7;";
        long id = Thread.currentThread().getId();
        long most = 0;
        for (int run = 0; run < 20; run++) {
            SqueezedAnswers x = new SqueezedAnswers();
            long before = threads.getThreadAllocatedBytes(id);
            for (int i = 0; i < 4; i++) {
                Check.tell(x, text);
                askAll(x);
            }
            most = threads.getThreadAllocatedBytes(id) - before;
        }
        check.that("made by calls: " + most + " bytes", most < 1000);
        long before = threads.getThreadAllocatedBytes(id);
        new SqueezedAnswers();
        long own = threads.getThreadAllocatedBytes(id) - before;
        check.that("made by the constructor: " + own + " bytes", own < 12000);
    }

    private static void askAll(SqueezedAnswers x) {
        x.rule(7); x.cell(7, 7, 2); x.column(7); x.seen(7, 7); x.weak(2); x.hidden(3, 3, 1); x.sure(2);
        x.hides(1); x.watched(); x.best(); x.set(7, 7, 1); x.put(7, 255); x.out(255); x.out(0); x.draw(7);
        x.want(7, 7, 1); x.brought(4095, 7, 7); x.seed(0); x.seed(1); x.signature(); x.alias(0); x.alias(1);
        x.alias(2); x.suspects(7); x.dump(7, 255); x.clear(7); x.keep(0); x.keep(1); x.back(0); x.differs(1, 0);
        x.differs(1, 1); x.sheet(3, 0, 40); x.lay(3, 39, 1); x.read(3, 0, 0, 13); x.torn(); x.count(5);
    }
}
