import java.io.IOException;
import java.lang.management.ManagementFactory;
import java.lang.reflect.Field;
import java.lang.reflect.Method;
import java.lang.reflect.Modifier;
import java.nio.file.Files;
import java.nio.file.Path;
import java.util.Set;
import java.util.TreeSet;
import java.util.regex.Matcher;
import java.util.regex.Pattern;

/** The face of the document, and those rules of LANGUAGE.md that the source or a run can tell. */
public final class LanguageTest {
    private static final String FORBIDDEN = "\\b(throw|throws|try|catch|synchronized|assert|protected|var|Object|"
        + "package|native|volatile|System\\.(?!arraycopy)\\w+|Math\\.\\w+Exact)\\b|->|::|@";
    private static final int METHOD_LINES = 60;
    private static final String MAP = "G66" + "012345678".repeat(4) + "t001t352t143t210e2m1b1s5";

    private static int wrong = 0;

    private static void need(boolean fine, String what) {
        if (!fine) {
            wrong++;
            System.out.println("not as due: " + what);
        }
    }

    public static void main(String[] args) throws IOException {
        face();
        source(Files.readString(Path.of("src/main/java/HillSight.java")));
        room();
        System.out.println(wrong == 0 ? "the face and the language are as due" : wrong + " things are not as due");
        if (wrong != 0) {
            System.exit(1);
        }
    }

    private static void face() {
        Class<?> c = HillSight.class;
        need(Modifier.isPublic(c.getModifiers()) && Modifier.isFinal(c.getModifiers()), "a public final class");
        need(c.getDeclaredConstructors().length == 1 && c.getConstructors().length == 1
            && c.getConstructors()[0].getParameterCount() == 0, "one public constructor without parameters");
        Set<String> open = new TreeSet<>();
        Set<String> names = new TreeSet<>();
        for (Method m : c.getDeclaredMethods()) {
            if (!Modifier.isPrivate(m.getModifiers())) {
                names.add(m.getName());
                open.add(m.toString());
            }
        }
        Set<String> face = new TreeSet<>();
        FrameSentences.METHODS.forEach(line -> face.add(FrameSentences.signature(line)));
        need(open.equals(face), "the methods " + open);
        for (Method m : c.getDeclaredMethods()) {
            need(!Modifier.isPrivate(m.getModifiers()) || !names.contains(m.getName()), "the name of " + m);
        }
        Set<String> constants = Set.of("UNKNOWN", "BAD", "LATE", "FULL", "NONE");
        for (Field f : c.getDeclaredFields()) {
            boolean constant = constants.contains(f.getName());
            need(Modifier.isPublic(f.getModifiers()) == constant, "who sees " + f);
            need(constant || Modifier.isPrivate(f.getModifiers()), "who sees " + f);
            need(!Modifier.isStatic(f.getModifiers()) || Modifier.isFinal(f.getModifiers()), "a final " + f);
        }
        for (Class<?> inner : c.getDeclaredClasses()) {
            need(Modifier.isStatic(inner.getModifiers()), "a static " + inner);
            for (Method m : inner.getDeclaredMethods()) {
                need(!names.contains(m.getName()), "the name of " + m);
                need(m.getParameterCount() <= 7, "the parameters of " + m);
            }
        }
    }

    private static void source(String text) {
        String bare = text.replaceAll("(?s)/\\*.*?\\*/", "").replaceAll("//.*", "").replaceAll("\"[^\"]*\"", "\"\"");
        Matcher m = Pattern.compile(FORBIDDEN).matcher(bare);
        while (m.find()) {
            need(false, "the source holds " + m.group());
        }
        need(!bare.contains("\" +") && !bare.contains("+ \""), "texts joined by +");
        m = Pattern.compile("import (.*);").matcher(bare);
        while (m.find()) {
            need(m.group(1).matches("java\\.util\\.(Arrays|ArrayList|List|Iterator)"), "import " + m.group(1));
        }
        methodLengths(text);
    }

    /** Takes a line that opens a block at the depth of members as a method's first, its closing brace as the last. */
    private static void methodLengths(String text) {
        int from = 0;
        int number = 0;
        String indent = "";
        for (String line : text.lines().toList()) {
            number++;
            if (line.matches("( {4}| {8})\\S.*\\) \\{") && !line.matches(" +(if|for|while|switch|else).*")) {
                from = number;
                indent = line.replaceAll("\\S.*", "");
            } else if (from > 0 && line.equals(indent + "}")) {
                need(number - from < METHOD_LINES, "the length of the method that ends in line " + number);
                from = 0;
            }
        }
    }

    /** All calls of a run live in one room, so no call makes an object: only the constructor does. */
    private static void room() {
        com.sun.management.ThreadMXBean thread =
            (com.sun.management.ThreadMXBean) ManagementFactory.getThreadMXBean();
        HillSight x = new HillSight();
        long sum = 0;
        // The first rounds load what the machine itself needs.
        for (int i = 0; i < 100; i++) {
            sum += callAll(x, i);
        }
        long before = thread.getCurrentThreadAllocatedBytes();
        for (int i = 0; i < 1000; i++) {
            sum += callAll(x, i);
        }
        long made = thread.getCurrentThreadAllocatedBytes() - before;
        // An object in each round would be 16 bytes each at the least; a few bytes are the machine's own.
        need(made < 8000, "the room: 1,000 rounds of calls made " + made + " bytes of objects, sum " + sum);
    }

    private static long callAll(HillSight x, int i) {
        long sum = x.wipe();
        for (int k = 0; k < MAP.length(); k++) {
            sum += x.write(MAP.charAt(k));
        }
        sum += x.fault() + x.map() + x.about(i % 12) + x.cell(i % 37, i % 5) + x.tower(i % 6, i % 4);
        sum += x.raise(i % 36, i % 10) + x.build(i % 36, i % 10) + x.raze(i % 5) + x.set(i % 4, i % 10) + x.undo();
        sum += x.sees(i % 36, i % 35, i % 5) + x.view(i % 36) + x.watched(i % 5) + x.joined(i % 4) + x.hollow(i % 3);
        sum += x.last(i % 36, i % 8) + x.best(i % 10, i % 2) + x.two(i % 10, i % 3) + x.part(i % 2 == 0);
        sum += x.judge(3, 103502000040000L) + x.find(i % 36, i % 2) + x.which() + x.lose();
        sum += x.share(i % 5, i % 2 == 0) + x.chance(i % 36, i % 11, i % 2 == 0) + x.seed(i) + x.drawn(1 + i % 20);
        return sum + x.keep(i % 2) + x.again(i % 2);
    }
}
