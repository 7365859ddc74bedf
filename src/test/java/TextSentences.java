/** The section TEXTS of the description, and the promises of the methods about texts: 2 to 5. */
final class TextSentences extends Sentences {
    private static final String FLAT = "G220000";
    /** The longest map text: 36 heights, five towers and four settings, 67 characters. */
    private static final String LONGEST = "G66" + "9".repeat(36) + "t359".repeat(5) + "e9m9b9s9";

    static void test() {
        section("Description");
        length();
        form();
        towerParts();
        settingParts();
        fiveTowers();
        position();
        cellDigits();
        repeatedParts();
        tooEarly();
        write();
        wipe();
        fault();
        map();
        mapResets();
        mapStays();
        mapAnswers();
    }

    private static void faultDue(String text, int want) {
        HillSight x = new HillSight();
        put(x, text);
        due("fault() of " + text, x.fault(), want);
        int cells = want != NONE ? LATE : (text.charAt(1) - '0') * (text.charAt(2) - '0');
        due("map() of " + text, x.map(), cells);
    }

    private static void length() {
        says("TEXTS. A map can be read from a text of at most 90 characters, which is empty at first.");
        HillSight x = new HillSight();
        due("about(11) at first", x.about(11), 0);
        due("wipe() at first", x.wipe(), 0);
        put(x, LONGEST);
        due("about(11)", x.about(11), 67);
        due("map() of the longest", x.map(), 36);
        for (int i = 68; i <= 90; i++) {
            due("write(48), character " + i, x.write(48), i);
        }
        due("write(48), character 91", x.write(48), FULL);
        due("about(11)", x.about(11), 90);
    }

    private static void form() {
        says("It consists of G, the digits w and h, a digit for the height of each cell, and any number of parts in"
            + " any order, without other characters:");
        faultDue("G220123", NONE);
        faultDue(LONGEST, NONE);
        faultDue("G220000" + "s1b2m3e4t001t012t023t030t000", NONE);
        faultDue("G220000" + "t001e4t012m3t023b2t030s1t000", NONE);
        for (char other : new char[] {0, ' ', '\n', '/', ':', 'G', 'T', 'E', 'M', 'B', 'S', 'a', 127, 128, 255}) {
            faultDue((other == 'G' ? 'g' : other) + "220000", 0);
            faultDue("G" + other + "20000", 1);
            faultDue("G2" + other + "0000", 2);
            faultDue("G22" + other + "000", 3);
            faultDue("G22000" + other, 6);
            faultDue("G220000" + other, 7);
            faultDue("G220000t001" + other, 11);
            faultDue("G220000e1" + other, 9);
        }
        for (int digit = 0; digit <= 9; digit++) {
            faultDue("G22" + digit + "00" + digit, NONE);
            faultDue("G220000" + digit, 7);
        }
        faultDue("220000", 0);
        faultDue("GG220000", 1);
        faultDue("G22000t000", 6);
        faultDue("G22000e1", 6);
    }

    private static void towerParts() {
        says("t, two digits for a cell and one for the rise, a tower;");
        for (char other : new char[] {0, ' ', '/', ':', '-', 't', 'e', 'G', 255}) {
            faultDue(FLAT + "t" + other + "00", 8);
            faultDue(FLAT + "t0" + other + "0", 9);
            faultDue(FLAT + "t00" + other, 10);
        }
        faultDue("G66" + zeros(36) + "t0:0", 41);
        faultDue("G66" + zeros(36) + "t2/0", 41);
        faultDue("G66" + zeros(36) + "t00:", 42);
        for (int rise = 0; rise <= 9; rise++) {
            HillSight x = read(FLAT + "t03" + rise);
            due("tower(0, 0) of rise " + rise, x.tower(0, 0), 3);
            due("tower(0, 1) of rise " + rise, x.tower(0, 1), rise);
        }
        HillSight x = read("G66" + zeros(36) + "t359t000t101t298");
        int[][] towers = {{35, 9}, {0, 0}, {10, 1}, {29, 8}};
        for (int t = 0; t < 4; t++) {
            due("tower(" + t + ", 0)", x.tower(t, 0), towers[t][0]);
            due("tower(" + t + ", 1)", x.tower(t, 1), towers[t][1]);
        }
    }

    private static void settingParts() {
        says("e, m, b or s and a digit (1 to 9 behind s), the setting eye, mark, bend or sight, each of them at most"
            + " once.");
        for (int s = 0; s < 4; s++) {
            char letter = "embs".charAt(s);
            for (int v = 0; v <= 9; v++) {
                if (s == 3 && v == 0) {
                    faultDue(FLAT + "s0", 8);
                } else {
                    due("about(" + (3 + s) + ") of " + letter + v, read(FLAT + letter + v).about(3 + s), v);
                }
            }
            for (char other : new char[] {0, ' ', '/', ':', 't', letter, 255}) {
                faultDue(FLAT + letter + other, 8);
            }
            faultDue(FLAT + letter + "12", 9);
            faultDue(FLAT + letter + "1" + letter + "1", 9);
            faultDue(FLAT + letter + "1" + letter + "2", 9);
        }
    }

    private static void fiveTowers() {
        says("At most five towers are allowed.");
        for (int towers = 0; towers <= 5; towers++) {
            due("about(2) of " + towers, read(FLAT + "t030".repeat(towers)).about(2), towers);
        }
        faultDue(FLAT + "t030".repeat(6), 27);
        faultDue(FLAT + "t030".repeat(7), 27);
    }

    private static void position() {
        says("The error position is the index of the first character with which, after the characters before it, no"
            + " map text continues, whatever its length would be;");
        faultDue("X", 0);
        faultDue("XG220000", 0);
        faultDue("G1", 1);
        faultDue("G7", 1);
        faultDue("G61", 2);
        faultDue("G67", 2);
        faultDue("G22x", 3);
        faultDue("G22x00?", 3);
        // A map text with 6 rows is longer than one with 2, and still the fault is where it cannot go on.
        faultDue("G66" + zeros(35) + "t", 38);
        faultDue("G66" + zeros(36) + "0", 39);
        faultDue(LONGEST + "t", 67);
        faultDue(LONGEST + "0", 67);
        faultDue(LONGEST + "x".repeat(23), 67);
        faultDue("x".repeat(90), 0);
        faultDue("G66" + zeros(87), 39);
    }

    private static void cellDigits() {
        says("so the first digit of a cell is wrong if there is no cell with this first digit (of two),");
        for (int w = 2; w <= 6; w++) {
            for (int h = 2; h <= 6; h++) {
                String start = "G" + w + h + zeros(w * h) + "t";
                for (int tens = 0; tens <= 9; tens++) {
                    boolean some = 10 * tens < w * h;
                    faultDue(start + tens, some ? start.length() + 1 : start.length());
                    for (int units = 0; some && units <= 9; units++) {
                        boolean there = 10 * tens + units < w * h;
                        faultDue(start + tens + units, start.length() + (there ? 2 : 1));
                        faultDue(start + tens + units + "0", there ? NONE : start.length() + 1);
                    }
                }
            }
        }
    }

    private static void repeatedParts() {
        says("and the letter t of a sixth tower is wrong, and that of a setting that was given.");
        faultDue(FLAT + "t030".repeat(5) + "t", 27);
        faultDue(FLAT + "e1" + "t030".repeat(5) + "t", 29);
        faultDue(FLAT + "t030".repeat(2) + "s1" + "t030".repeat(3) + "b1" + "t", 31);
        faultDue(FLAT + "t030".repeat(5) + "e1", NONE);
        for (char letter : "embs".toCharArray()) {
            faultDue(FLAT + letter + "1" + letter, 9);
            faultDue(FLAT + letter + "1t000" + letter, 13);
            for (char other : "embs".toCharArray()) {
                faultDue(FLAT + letter + "1" + other + "1", letter == other ? 9 : NONE);
            }
        }
    }

    private static void tooEarly() {
        says("It is the length of the text if the text just ends too early.");
        String whole = "G32012345t051e0s2";
        for (int length = 0; length <= whole.length(); length++) {
            boolean ends = length == 9 || length == 13 || length == 15 || length == 17;
            faultDue(whole.substring(0, length), ends ? NONE : length);
        }
        faultDue("G66" + zeros(35), 38);
        faultDue(LONGEST.substring(0, 66), 66);
    }

    private static void write() {
        promise(2);
        says("Appends a character to the text.");
        HillSight x = new HillSight();
        for (char letter : "G231234567t".toCharArray()) {
            x.write(letter);
        }
        due("fault() of what was written", x.fault(), 9);
        says("letter: its code, 0 to 255");
        HillSight y = new HillSight();
        for (int code = 0; code <= 255; code++) {
            due("write(" + code + ")", y.write(code), 1);
            due("fault() of " + code, y.fault(), code == 'G' ? 1 : 0);
            y.wipe();
            y = code % 128 == 127 ? new HillSight() : y;
        }
        says("Returns how many characters the text has then;");
        for (int i = 1; i <= 90; i++) {
            due("write(0), character " + i, y.write(0), i);
        }
        says("BAD if letter is out of range;");
        due("write(-1) of 91", y.write(-1), BAD);
        y.wipe();
        for (int code : new int[] {LOW, -256 + 'G', -1, 256, 256 + 'G', HIGH}) {
            due("write(" + code + ")", y.write(code), BAD);
        }
        due("about(11)", y.about(11), 0);
        says("FULL if it has 90 characters.");
        for (int i = 1; i < 90; i++) {
            y.write('G');
        }
        due("write(71) at 89", y.write('G'), 90);
        due("write(71) at 90", y.write('G'), FULL);
        due("write(255) at 90", y.write(255), FULL);
        y.wipe();
        due("write(71) after wipe()", y.write('G'), 1);
    }

    private static void wipe() {
        promise(3);
        says("Empties the text.");
        HillSight x = read(FLAT + "t003");
        x.wipe();
        due("about(11)", x.about(11), 0);
        due("fault()", x.fault(), 0);
        due("about(2), the map stays", x.about(2), 1);
        put(x, "G2");
        due("fault(), nothing of the text before", x.fault(), 2);
        says("Returns how many characters it had.");
        due("wipe()", x.wipe(), 2);
        due("wipe() of the empty text", x.wipe(), 0);
        due("wipe() of the full text", full().wipe(), 90);
    }

    private static void fault() {
        promise(4);
        says("Returns the error position of the text. Returns the error position,");
        due("fault() at first", new HillSight().fault(), 0);
        due("fault() of 90 characters", full().fault(), 21);
        HillSight x = rich();
        x.write('?');
        due("fault()", x.fault(), 25);
        due("fault() once more", x.fault(), 25);
        says("or NONE if the text is a map text.");
        HillSight y = new HillSight();
        put(y, FLAT);
        due("fault()", y.fault(), NONE);
        due("fault() of the longest text", read(LONGEST).fault(), NONE);
        HillSight z = rich();
        due("fault()", z.fault(), NONE);
        dueText("an object after fault()", wholeOf(z), wholeOf(rich()));
    }

    private static void map() {
        promise(5);
        says("Reads the map from the text.");
        HillSight x = read("G23012345s2t051t000b3");
        dueText("the object", grid(x), "2 3: 2 1 0 3 2 012345 t5+1 t0+0");
        HillSight y = read(LONGEST);
        dueText("the longest", grid(y), "6 6: 5 9 9 9 9 " + "9".repeat(36) + " t35+9".repeat(5));
        // Nothing of the larger map may stay in a smaller one, nor in the larger one after it.
        put(y, FLAT);
        y.map();
        dueText("a smaller one", grid(y), "2 2: 0 1 0 0 9 0000");
        put(y, "G32000000");
        y.map();
        dueText("a larger one again", grid(y), "3 2: 0 1 0 0 9 000000");
    }

    private static void mapResets() {
        says("Settings that the text does not give are as at first;");
        String[] given = {"e5", "m5", "b5", "s5"};
        for (int s = 0; s < 4; s++) {
            HillSight x = new HillSight();
            for (int what = 0; what < 4; what++) {
                x.set(what, 7);
            }
            put(x, FLAT + given[s]);
            x.map();
            int[] want = {1, 0, 0, 9};
            want[s] = 5;
            for (int what = 0; what < 4; what++) {
                due("about(" + (3 + what) + ") after " + given[s], x.about(3 + what), want[what]);
            }
        }
        says("no change is kept, and nothing is saved then.");
        HillSight x = rich();
        x.keep(1);
        due("map()", x.map(), 6);
        due("about(9)", x.about(9), 0);
        due("undo()", x.undo(), LATE);
        due("again(0)", x.again(0), LATE);
        due("again(1)", x.again(1), LATE);
        dueText("the map", grid(x), grid(read("G32010203t012t040e2m1b1s4")));
        HillSight many = full();
        put(many, FLAT);
        many.map();
        many.raise(0, 1);
        due("about(9) after the first change", many.about(9), 1);
        due("undo()", many.undo(), 0);
        due("undo() of what was before the map", many.undo(), LATE);
    }

    private static void mapStays() {
        says("The text, the observations and the random number stay.");
        HillSight x = rich();
        x.map();
        due("about(11)", x.about(11), 25);
        due("fault()", x.fault(), NONE);
        due("about(10)", x.about(10), 2);
        due("seed(0)", x.seed(0), 77);
        due("map() once more", x.map(), 6);
    }

    private static void mapAnswers() {
        says("Returns the number of cells;");
        for (int w = 2; w <= 6; w++) {
            for (int h = 2; h <= 6; h++) {
                HillSight x = new HillSight();
                put(x, "G" + w + h + zeros(w * h));
                due("map() of " + w + " by " + h, x.map(), w * h);
            }
        }
        says("LATE if the text is not a map text.");
        due("map() of the empty text", new HillSight().map(), LATE);
        for (String text : new String[] {"G", "G22", "G22000", "G2200000", FLAT + "t", FLAT + "t00", FLAT + "t040",
            FLAT + "s0", FLAT + "e", FLAT + "e1e1", FLAT + "t000".repeat(6), "G17" + zeros(7), LONGEST + "t000"}) {
            HillSight x = read("G32010203t012");
            x.raise(0, 5);
            x.keep(1);
            put(x, text);
            due("map() of " + text, x.map(), LATE);
            HillSight y = read("G32010203t012");
            y.raise(0, 5);
            y.keep(1);
            put(y, text);
            dueText("an object after map() of " + text, wholeOf(x), wholeOf(y));
        }
    }
}
