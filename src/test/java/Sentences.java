import java.io.IOException;
import java.nio.file.Files;
import java.nio.file.Path;
import java.util.Arrays;
import java.util.LinkedHashMap;
import java.util.Map;

/**
 * The document as the boundary tests quote it: a test begins with the words that it is about, so that a broken promise
 * is told in the document's own words, and finish() tells what of the document no test quotes.
 */
abstract class Sentences {
    static final int UNKNOWN = -1, BAD = -2, LATE = -3, FULL = -4, NONE = -9;
    static final int LOW = Integer.MIN_VALUE, HIGH = Integer.MAX_VALUE;
    /** A board of low and high cells with a tower on a corner: 16 regions of one cell each. */
    static final String BOARD = "G66" + "909090090909".repeat(3) + "t000";
    private static final Path DOCUMENT = Path.of("../shared/DOC.md");

    private static final Map<String, String> sections = new LinkedHashMap<>();
    private static final Map<String, boolean[]> quoted = new LinkedHashMap<>();
    private static String section = "";
    private static String sentence = "";
    private static int answers = 1;
    private static int wrong = 0;

    /** Takes the document apart into sections, each as one line of words; headings and signatures are left out. */
    static void open() throws IOException {
        if (!Files.exists(DOCUMENT)) {
            System.out.println("no document at " + DOCUMENT + ": the quotes are not looked up");
            return;
        }
        String heading = "";
        for (String line : Files.readAllLines(DOCUMENT)) {
            if (line.startsWith("#")) {
                heading = line.replaceAll("^#+ *", "");
            } else if (!line.matches("`.*`|----.*")) {
                sections.merge(heading, plain(line), (a, b) -> (a + " " + b).trim());
            }
        }
        sections.forEach((name, text) -> quoted.put(name, new boolean[text.length()]));
    }

    private static String plain(String line) {
        return line.replaceAll("^ *- ", "").replace("`", "").replaceAll("\\s+", " ").trim();
    }

    static void section(String name) {
        section = name;
        if (!sections.isEmpty() && !sections.containsKey(name)) {
            tell("the document has no section \"" + name + "\"");
        }
    }

    static void promise(int number) {
        String start = "Promise " + number + ":";
        section(sections.keySet().stream().filter(name -> name.startsWith(start)).findFirst().orElse(start));
    }

    /** Begins the test of these words of the section at hand. */
    static void says(String words) {
        endTest();
        sentence = words;
        answers = 0;
        quote(words);
    }

    private static void endTest() {
        if (answers == 0) {
            tell("nothing is tested of \"" + sentence + "\"");
        }
    }

    /** Words that name no case of their own: a heading of a list, or what other words of the section say again. */
    static void leads(String words) {
        quote(words);
    }

    private static void quote(String words) {
        String text = sections.get(section);
        if (text == null) {
            return;
        }
        int at = text.indexOf(words);
        if (at < 0) {
            tell("section " + section + " does not say \"" + words + "\"");
        }
        for (; at >= 0; at = text.indexOf(words, at + 1)) {
            Arrays.fill(quoted.get(section), at, at + words.length(), true);
        }
    }

    static void due(String call, long got, long want) {
        answers++;
        if (got != want) {
            tell(section + ", \"" + sentence + "\": " + call + " answered " + got + ", due is " + want);
        }
    }

    static void dueText(String call, String got, String want) {
        answers++;
        if (!got.equals(want)) {
            tell(section + ", \"" + sentence + "\": " + call + " shows\n  " + got + ", due is\n  " + want);
        }
    }

    private static void tell(String what) {
        wrong++;
        System.out.println(what);
    }

    /** Tells what of the document no test quotes; answers how much was wrong. */
    static int finish() {
        endTest();
        for (String name : sections.keySet()) {
            tellUnquoted(name);
        }
        return wrong;
    }

    private static void tellUnquoted(String name) {
        StringBuilder left = new StringBuilder();
        boolean[] done = quoted.get(name);
        for (int i = 0; i < done.length; i++) {
            left.append(done[i] ? ' ' : sections.get(name).charAt(i));
        }
        if (left.toString().matches(".*[A-Za-z0-9].*")) {
            tell("section " + name + ", no test quotes \"" + left.toString().trim() + "\"");
        }
    }

    static String zeros(int n) {
        return "0".repeat(n);
    }

    static void put(HillSight x, String text) {
        x.wipe();
        for (char letter : text.toCharArray()) {
            x.write(letter);
        }
    }

    static HillSight read(String text) {
        HillSight x = new HillSight();
        put(x, text);
        if (x.map() < 0) {
            tell("the test's map " + text + " is not read");
        }
        return x;
    }

    /** An object with something of all: towers, settings, observations, changes, a saved state, a random number. */
    static HillSight rich() {
        HillSight x = read("G32010203t012t040e2m1b1s4");
        x.keep(0);
        x.find(1, 1);
        x.find(5, 0);
        x.seed(77);
        x.raise(0, 4);
        x.build(5, 3);
        x.set(2, 2);
        x.raze(0);
        return x;
    }

    /** An object that is full: five towers, six observations, 90 characters, 14 changes. */
    static HillSight full() {
        HillSight x = read("G32010203t012t040t003");
        for (int i = 0; i < 6; i++) {
            x.find(i, 1);
        }
        for (int i = 0; i < 12; i++) {
            x.raise(i % 6, i % 10);
        }
        x.build(1, 1);
        x.build(2, 2);
        x.keep(1);
        for (int i = 21; i < 90; i++) {
            x.write('x');
        }
        return x;
    }

    /** What the questions tell of the grid, the towers and the settings. */
    static String grid(HillSight x) {
        StringBuilder s = new StringBuilder();
        for (int what = 0; what <= 6; what++) {
            s.append(x.about(what)).append(what == 1 ? ": " : " ");
        }
        for (int c = 0; c < x.about(0) * x.about(1); c++) {
            s.append(x.cell(c, 0));
        }
        for (int t = 0; t < x.about(2); t++) {
            s.append(" t").append(x.tower(t, 0)).append('+').append(x.tower(t, 1));
        }
        return s.toString();
    }

    /** What the questions tell of all, but for what is kept and saved. */
    static String look(HillSight x) {
        long random = x.seed(0);
        x.seed(random);
        return grid(x) + " hidden " + x.about(7) + " regions " + x.about(8) + " changes " + x.about(9)
            + " observations " + x.about(10) + " fit " + x.which() + " text " + x.about(11) + " fault " + x.fault()
            + " random " + random;
    }

    /** All that can be found out about an object, which is used up by it. */
    static String wholeOf(HillSight x) {
        StringBuilder s = new StringBuilder(look(x));
        for (int i = 0; i < 20 && x.undo() != LATE; i++) {
            s.append("\n  before: ").append(grid(x));
        }
        for (int slot = 0; slot < 2; slot++) {
            s.append("\n  saved: ").append(x.again(slot)).append(", ").append(grid(x));
        }
        return s.toString();
    }
}
