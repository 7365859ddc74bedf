import java.lang.reflect.Method;
import java.lang.reflect.Modifier;
import java.util.Arrays;
import java.util.List;
import java.util.regex.Matcher;
import java.util.regex.Pattern;
import java.util.stream.Collectors;

/** What stands around the description and the promises: "What it is", "The public face" and "Not promised". */
final class FrameSentences extends Sentences {
    /** The methods of the face, in the document's words. */
    static final List<String> METHODS = List.of(
        "public int write(int letter);",
        "public int wipe();",
        "public int fault();",
        "public int map();",
        "public int about(int what);",
        "public int cell(int cell, int what);",
        "public int tower(int tower, int what);",
        "public int raise(int cell, int height);",
        "public int build(int cell, int rise);",
        "public int raze(int tower);",
        "public int set(int what, int v);",
        "public int undo();",
        "public int sees(int from, int to, int what);",
        "public long view(int cell);",
        "public long watched(int tower);",
        "public long joined(int way);",
        "public long hollow(int hollow);",
        "public int last(int cell, int direction);",
        "public int best(int rise, int what);",
        "public int two(int rise, int what);",
        "public int part(boolean upper);",
        "public int judge(int n, long row);",
        "public int find(int cell, int was);",
        "public int lose();",
        "public long which();",
        "public int share(int tower, boolean upper);",
        "public int chance(int cell, int x, boolean upper);",
        "public long seed(long v);",
        "public int drawn(int m);",
        "public int keep(int slot);",
        "public int again(int slot);");

    static void test() throws ReflectiveOperationException {
        sightOnGrid();
        readsAndTells();
        computes();
        checksAndInfers();
        lastCalls();
        publicClass();
        constants();
        methods();
        notPromised();
    }

    private static void sightOnGrid() {
        section("What it is");
        says("Visibility analysis on a small height grid, with earth curvature, observation towers, an eye height, a"
            + " target height and a range of sight.");
        HillSight x = read("G62" + zeros(12) + "e0");
        due("view(0), flat", x.view(0), 4095);
        x.set(2, 1);
        due("view(0) over the curvature", x.view(0), 3 + 3 * 64);
        x.set(0, 1);
        due("view(0) with an eye height", x.view(0), 15 + 15 * 64);
        x.build(0, 0);
        due("watched(0), a tower without rise", x.watched(0), 3 + 3 * 64);
        x.set(1, 1);
        due("view(0) with a target height", x.view(0), 4095);
        x.set(3, 2);
        due("view(0) in the range of sight", x.view(0), 7 + 7 * 64);
        x.raise(1, 9);
        due("view(0) behind a height", x.view(0), 3 + 3 * 64);
    }

    private static void readsAndTells() {
        says("The class reads maps from texts,");
        HillSight x = read("G520030000000t001");
        due("map()", x.map(), 10);
        says("tells which cells see which and what blocks the line,");
        due("sees(0, 4, 0)", x.sees(0, 4, 0), 0);
        due("sees(4, 2, 0)", x.sees(4, 2, 0), 1);
        due("sees(0, 4, 2)", x.sees(0, 4, 2), 2);
        says("Changes can be undone.");
        x.raise(2, 0);
        due("sees(0, 4, 0) on flat land", x.sees(0, 4, 0), 1);
        due("undo()", x.undo(), 0);
        due("sees(0, 4, 0) behind the hill again", x.sees(0, 4, 0), 0);
    }

    private static void computes() {
        says("computes viewsheds and their combinations, hidden regions, the required eye height, the farthest visible"
            + " cell in a direction, the best places for one or two towers,");
        HillSight x = read("G520030000000t001");
        long seen = 1 + 2 + 4 + 32 + 64 + 128 + 256;
        due("view(0)", x.view(0), seen);
        due("joined(0)", x.joined(0), seen);
        due("hollow(0)", x.hollow(0), 8 + 16 + 512);
        due("sees(0, 4, 4)", x.sees(0, 4, 4), 6);
        due("last(0, 0)", x.last(0, 0), 2);
        due("best(1, 0)", x.best(1, 0), 2);
        due("two(0, 1)", x.two(0, 1), 2);
    }

    private static void checksAndInfers() {
        says("checks sequences of events, infers a cell from observations, and computes Shapley values of towers,"
            + " probabilities, and random grids.");
        HillSight x = read("G520030000000t001t041");
        due("judge(2, 3100040300)", x.judge(2, 3100040300L), NONE);
        due("judge(2, 3100040200)", x.judge(2, 3100040200L), 1);
        x.find(4, 1);
        x.find(0, 0);
        due("which()", x.which(), 8 + 16 + 512);
        due("share(0, true)", x.share(0, true), 5);
        due("chance(2, 5, true)", x.chance(2, 5, true), 3);
        due("chance(2, 5, false)", x.chance(2, 5, false), 4);
        x.drawn(1);
        due("seed(0) after a draw", x.seed(0), 1442695040888963407L);
    }

    private static void lastCalls() {
        says("An object is used for at most 512 calls after it has been made;");
        leads("what later calls answer is free.");
        HillSight x = new HillSight();
        for (int round = 1; round <= 84; round++) {
            x.raise(0, round % 10);
            x.build(1, 2);
            x.raze(0);
            x.set(0, round % 10);
            x.keep(1);
            x.undo();
        }
        due("about(9), call 505", x.about(9), 13);
        due("cell(0, 0), call 506", x.cell(0, 0), 4);
        due("about(3), call 507", x.about(3), 1);
        due("undo(), call 508", x.undo(), 12);
        due("about(2), call 509", x.about(2), 1);
        due("again(1), call 510", x.again(1), 0);
        due("about(3), call 511", x.about(3), 4);
        due("undo(), call 512", x.undo(), LATE);
    }

    private static void publicClass() {
        section("The public face");
        leads("java");
        says("public final class HillSight {");
        int modifiers = HillSight.class.getModifiers();
        due("public", modifiers & Modifier.PUBLIC, Modifier.PUBLIC);
        due("final", modifiers & Modifier.FINAL, Modifier.FINAL);
        dueText("the package", HillSight.class.getPackageName(), "");
        says("public HillSight();");
        due("constructors", HillSight.class.getDeclaredConstructors().length, 1);
        dueText("the constructor", HillSight.class.getDeclaredConstructors()[0].toString(), "public HillSight()");
    }

    private static void constants() throws ReflectiveOperationException {
        says("public static final int UNKNOWN = -1, BAD = -2, LATE = -3, FULL = -4, NONE = -9;");
        String[] names = {"UNKNOWN", "BAD", "LATE", "FULL", "NONE"};
        int[] values = {-1, -2, -3, -4, -9};
        for (int i = 0; i < names.length; i++) {
            dueText(names[i], HillSight.class.getField(names[i]).toString(),
                "public static final int HillSight." + names[i]);
            due(names[i], HillSight.class.getField(names[i]).getInt(null), values[i]);
        }
        due("public fields", HillSight.class.getFields().length, names.length);
    }

    private static void methods() {
        List<String> there = Arrays.stream(HillSight.class.getDeclaredMethods())
            .filter(m -> Modifier.isPublic(m.getModifiers())).map(Method::toString).collect(Collectors.toList());
        for (String line : METHODS) {
            says(line);
            due(line, there.contains(signature(line)) ? 1 : 0, 1);
        }
        due("public methods", there.size(), METHODS.size());
    }

    /** A method of the face as reflection tells it: without the names of its parameters. */
    static String signature(String line) {
        Matcher m = Pattern.compile("public (\\w+) (\\w+)\\((.*)\\);").matcher(line);
        if (!m.matches()) {
            return line;
        }
        String types = m.group(3).replaceAll(" \\w+(,|$)", "$1").replace(", ", ",");
        return "public " + m.group(1) + " HillSight." + m.group(2) + "(" + types + ")";
    }

    private static void notPromised() {
        section("Not promised");
        leads("How the state is held inside the object is free, as are the speed of each call, the text of toString"
            + " and the behaviour of equals and hashCode. Use of one object from several threads at once is not"
            + " promised to be safe.");
        says("Nothing is promised beyond the answers and state changes described above,");
        // What one object does is no state change of another one.
        HillSight other = rich();
        HillSight used = full();
        used.seed(5);
        used.wipe();
        used.lose();
        used.judge(3, 100902035031000L);
        dueText("another object", wholeOf(other), wholeOf(rich()));
        says("and nothing about an object after its 512th call.");
        // LANGUAGE.md still asks that every call ends without an exception.
        long sum = 0;
        for (int i = 0; i < 2000; i++) {
            sum |= used.write(i % 256) | used.raise(i % 6, i % 10) | used.keep(i % 2) | used.find(i % 6, i % 2);
        }
        due("calls after the 512th answer", sum < 0 ? 1 : 0, 1);
    }
}
