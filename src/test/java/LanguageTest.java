import java.io.IOException;
import java.lang.reflect.Field;
import java.lang.reflect.Method;
import java.lang.reflect.Modifier;
import java.nio.file.Files;
import java.nio.file.Path;
import java.util.Set;
import java.util.TreeSet;
import java.util.regex.Matcher;
import java.util.regex.Pattern;

/** The face of the document, and those rules of LANGUAGE.md that a reading of the source can tell. */
public final class LanguageTest {
    private static final String FACE = """
        int write(int)
        int wipe()
        int fault()
        int map()
        int about(int)
        int cell(int,int)
        int tower(int,int)
        int raise(int,int)
        int build(int,int)
        int raze(int)
        int set(int,int)
        int undo()
        int sees(int,int,int)
        long view(int)
        long watched(int)
        long joined(int)
        long hollow(int)
        int last(int,int)
        int best(int,int)
        int two(int,int)
        int part(boolean)
        int judge(int,long)
        int find(int,int)
        int lose()
        long which()
        int share(int,boolean)
        int chance(int,int,boolean)
        long seed(long)
        int drawn(int)
        int keep(int)
        int again(int)
        """;
    private static final String FORBIDDEN = "\\b(throw|throws|try|catch|synchronized|assert|protected|var|Object|"
        + "package|native|volatile|System\\.(?!arraycopy)\\w+|Math\\.\\w+Exact)\\b|->|::|@";
    private static final int METHOD_LINES = 60;

    private static int wrong = 0;

    private static void need(boolean fine, String what) {
        if (!fine) {
            wrong++;
            System.out.println("not as due: " + what);
        }
    }

    public static void main(String[] args) throws IOException {
        face();
        source(Files.readString(Path.of("src/main/java/HillSight.java")));
        System.out.println(wrong == 0 ? "the face and the language are as due" : wrong + " things are not as due");
        if (wrong != 0) {
            System.exit(1);
        }
    }

    private static void face() {
        Class<?> c = HillSight.class;
        need(Modifier.isPublic(c.getModifiers()) && Modifier.isFinal(c.getModifiers()), "a public final class");
        need(c.getDeclaredConstructors().length == 1 && c.getConstructors().length == 1
            && c.getConstructors()[0].getParameterCount() == 0, "one public constructor without parameters");
        Set<String> open = new TreeSet<>();
        Set<String> names = new TreeSet<>();
        for (Method m : c.getDeclaredMethods()) {
            if (!Modifier.isPrivate(m.getModifiers())) {
                names.add(m.getName());
                open.add(m.toString().replace("HillSight.", "").replaceFirst("^public ", ""));
            }
        }
        need(open.equals(new TreeSet<>(FACE.lines().toList())), "the methods " + open);
        for (Method m : c.getDeclaredMethods()) {
            need(!Modifier.isPrivate(m.getModifiers()) || !names.contains(m.getName()), "the name of " + m);
        }
        Set<String> constants = Set.of("UNKNOWN", "BAD", "LATE", "FULL", "NONE");
        for (Field f : c.getDeclaredFields()) {
            boolean constant = constants.contains(f.getName());
            need(Modifier.isPublic(f.getModifiers()) == constant, "who sees " + f);
            need(constant || Modifier.isPrivate(f.getModifiers()), "who sees " + f);
            need(!Modifier.isStatic(f.getModifiers()) || Modifier.isFinal(f.getModifiers()), "a final " + f);
        }
        for (Class<?> inner : c.getDeclaredClasses()) {
            need(Modifier.isStatic(inner.getModifiers()), "a static " + inner);
            for (Method m : inner.getDeclaredMethods()) {
                need(!names.contains(m.getName()), "the name of " + m);
                need(m.getParameterCount() <= 7, "the parameters of " + m);
            }
        }
    }

    private static void source(String text) {
        String bare = text.replaceAll("(?s)/\\*.*?\\*/", "").replaceAll("//.*", "").replaceAll("\"[^\"]*\"", "\"\"");
        Matcher m = Pattern.compile(FORBIDDEN).matcher(bare);
        while (m.find()) {
            need(false, "the source holds " + m.group());
        }
        need(!bare.contains("\" +") && !bare.contains("+ \""), "texts joined by +");
        m = Pattern.compile("import (.*);").matcher(bare);
        while (m.find()) {
            need(m.group(1).matches("java\\.util\\.(Arrays|ArrayList|List|Iterator)"), "import " + m.group(1));
        }
        methodLengths(text);
    }

    /** Takes a line that opens a block at the depth of members as a method's first one, and its closing brace as the last. */
    private static void methodLengths(String text) {
        int from = 0;
        int number = 0;
        String indent = "";
        for (String line : text.lines().toList()) {
            number++;
            if (line.matches("( {4}| {8})\\S.*\\) \\{") && !line.matches(" +(if|for|while|switch|else).*")) {
                from = number;
                indent = line.replaceAll("\\S.*", "");
            } else if (from > 0 && line.equals(indent + "}")) {
                need(number - from < METHOD_LINES, "the length of the method that ends in line " + number);
                from = 0;
            }
        }
    }
}
