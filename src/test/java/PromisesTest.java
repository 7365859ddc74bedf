/** Each promise of the document on cases worked out by hand: ordinary inputs, named edges, wrong inputs. */
public final class PromisesTest {
    private static final int UNKNOWN = -1, BAD = -2, LATE = -3, FULL = -4, NONE = -9;
    private static final int LOW = Integer.MIN_VALUE, HIGH = Integer.MAX_VALUE;
    /** A wall of height 3 in the middle of the upper one of two rows. */
    private static final String WALL = "G520030000000";

    private static int wrong = 0;
    private static int promise = 0;

    private static void due(String what, long got, long want) {
        if (got != want) {
            wrong++;
            System.out.println("promise " + promise + ": " + what + " answered " + got + ", due is " + want);
        }
    }

    private static void put(HillSight x, String text) {
        x.wipe();
        for (char letter : text.toCharArray()) {
            x.write(letter);
        }
    }

    private static HillSight read(String text) {
        HillSight x = new HillSight();
        put(x, text);
        due("map() of " + text, x.map(), (text.charAt(1) - '0') * (text.charAt(2) - '0'));
        return x;
    }

    private static void faultDue(String text, int want) {
        HillSight x = new HillSight();
        put(x, text);
        due("fault() of " + text, x.fault(), want);
        due("map() of " + text, x.map() == LATE ? 1 : 0, want == NONE ? 0 : 1);
    }

    public static void main(String[] args) {
        newObject();
        write();
        wipe();
        fault();
        map();
        about();
        cell();
        tower();
        raise();
        build();
        raze();
        set();
        undo();
        sees();
        seesBetween();
        view();
        watched();
        joined();
        hollow();
        last();
        best();
        two();
        part();
        judge();
        judgeEvents();
        find();
        lose();
        which();
        share();
        chance();
        seed();
        drawn();
        keep();
        again();
        System.out.println(wrong == 0 ? "all promises hold" : wrong + " answers are not as due");
        if (wrong != 0) {
            System.exit(1);
        }
    }

    private static void newObject() {
        promise = 1;
        int[] first = {2, 2, 0, 1, 0, 0, 9, 4, 1, 0, 0, 0};
        HillSight x = new HillSight();
        for (int what = 0; what < first.length; what++) {
            due("about(" + what + ")", x.about(what), first[what]);
        }
        for (int c = 0; c < 4; c++) {
            due("cell(" + c + ", 0)", x.cell(c, 0), 0);
        }
        due("again(0)", x.again(0), LATE);
        due("again(1)", x.again(1), LATE);
        due("seed(7)", x.seed(7), 0);
        due("fault()", x.fault(), 0);
        HillSight other = new HillSight();
        x.raise(0, 5);
        due("cell(0, 0) of another object", other.cell(0, 0), 0);
    }

    private static void write() {
        promise = 2;
        HillSight x = new HillSight();
        due("write(256)", x.write(256), BAD);
        due("write(-1)", x.write(-1), BAD);
        due("write(LOW)", x.write(LOW), BAD);
        for (int i = 1; i <= 90; i++) {
            due("write " + i, x.write(i % 2 == 0 ? 255 : 0), i);
        }
        due("write(48) at 90", x.write(48), FULL);
        due("write(256) at 90", x.write(256), BAD);
        due("about(11)", x.about(11), 90);
    }

    private static void wipe() {
        promise = 3;
        HillSight x = new HillSight();
        due("wipe()", x.wipe(), 0);
        put(x, "G22");
        due("wipe()", x.wipe(), 3);
        due("wipe()", x.wipe(), 0);
        due("write(71)", x.write('G'), 1);
        HillSight y = read("G220000t003");
        y.wipe();
        due("about(2) after wipe()", y.about(2), 1);
    }

    private static void fault() {
        promise = 4;
        faultDue("", 0);
        faultDue("g", 0);
        faultDue("G", 1);
        faultDue("G1", 1);
        faultDue("G7", 1);
        faultDue("G21", 2);
        faultDue("G67", 2);
        faultDue("G22", 3);
        faultDue("G22000", 6);
        faultDue("G22000t", 6);
        faultDue("G220000", NONE);
        faultDue("G2200000", 7);
        faultDue("G220000e", 8);
        faultDue("G220000ee", 8);
        faultDue("G220000e0m9b5s1", NONE);
        faultDue("G220000s0", 8);
        faultDue("G220000s9", NONE);
        faultDue("G220000m1e1m", 11);
        faultDue("G220000e12", 9);
        faultDue("G220000t", 8);
        faultDue("G220000t0", 9);
        faultDue("G220000t1", 8);
        faultDue("G220000t03", 10);
        faultDue("G220000t04", 9);
        faultDue("G220000t03t", 10);
        faultDue("G220000t039", NONE);
        faultDue("G220000T039", 7);
        faultDue("G25" + "0".repeat(10) + "t1", 14);
        faultDue("G25" + "0".repeat(10) + "t09", 16);
        faultDue("G62" + "0".repeat(12) + "t110", NONE);
        faultDue("G62" + "0".repeat(12) + "t12", 17);
        faultDue("G66" + "9".repeat(36) + "t359", NONE);
        faultDue("G66" + "9".repeat(36) + "t36", 41);
        faultDue("G66" + "9".repeat(36) + "t4", 40);
        faultDue("G220000" + "t000".repeat(5) + "b1", NONE);
        faultDue("G220000" + "t000".repeat(5) + "t", 27);
        faultDue("G220000" + "t000".repeat(3) + "e1" + "t000".repeat(2) + "t000", 29);
        faultDue("G66" + "0".repeat(36) + "t000".repeat(5) + "e1m1b1s1" + "0".repeat(23), 67);
        HillSight x = new HillSight();
        put(x, "G220000");
        x.write(0);
        due("fault() with letter 0", x.fault(), 7);
        put(x, "G22");
        due("fault() of a text shorter than the one before", x.fault(), 3);
    }

    private static void map() {
        promise = 5;
        HillSight x = new HillSight();
        x.seed(3);
        x.find(0, 1);
        x.keep(0);
        x.keep(1);
        x.raise(1, 4);
        x.set(0, 5);
        put(x, "G23012345s2t051t000b3");
        due("map()", x.map(), 6);
        int[] now = {2, 3, 2, 1, 0, 3, 2};
        for (int what = 0; what < now.length; what++) {
            due("about(" + what + ")", x.about(what), now[what]);
        }
        for (int c = 0; c < 6; c++) {
            due("cell(" + c + ", 0)", x.cell(c, 0), c);
        }
        due("tower(0, 0)", x.tower(0, 0), 5);
        due("tower(0, 1)", x.tower(0, 1), 1);
        due("tower(1, 0)", x.tower(1, 0), 0);
        due("undo()", x.undo(), LATE);
        due("again(0)", x.again(0), LATE);
        due("again(1)", x.again(1), LATE);
        due("about(10)", x.about(10), 1);
        due("about(11)", x.about(11), 21);
        due("seed(0)", x.seed(0), 3);
        x.raise(0, 9);
        x.keep(1);
        x.write('t');
        due("map() of a bad text", x.map(), LATE);
        due("about(9) after it", x.about(9), 1);
        due("cell(0, 0) after it", x.cell(0, 0), 9);
        due("again(1) after it", x.again(1), 2);
    }

    private static void about() {
        promise = 6;
        HillSight x = read("G34" + "0".repeat(12) + "t000s1e4m5b6");
        x.raise(11, 2);
        x.find(2, 0);
        x.find(3, 1);
        int[] now = {3, 4, 1, 4, 5, 6, 1, 8, 1, 1, 2, 27};
        for (int what = 0; what < now.length; what++) {
            due("about(" + what + ")", x.about(what), now[what]);
        }
        due("about(-1)", x.about(-1), BAD);
        due("about(12)", x.about(12), BAD);
        due("about(LOW)", x.about(LOW), BAD);
        due("about(HIGH)", x.about(HIGH), BAD);
    }

    private static void cell() {
        promise = 7;
        HillSight x = read(WALL + "t001t031t002");
        due("cell(2, 0)", x.cell(2, 0), 3);
        due("cell(0, 1)", x.cell(0, 1), 5);
        due("cell(3, 1)", x.cell(3, 1), 2);
        due("cell(9, 1)", x.cell(9, 1), 0);
        due("cell(2, 2)", x.cell(2, 2), 3);
        due("cell(4, 2)", x.cell(4, 2), 1);
        due("cell(0, 3)", x.cell(0, 3), 7);
        due("cell(0, 4)", x.cell(0, 4), NONE);
        due("cell(10, 0)", x.cell(10, 0), UNKNOWN);
        due("cell(-1, 9)", x.cell(-1, 9), UNKNOWN);
        due("cell(0, 5)", x.cell(0, 5), BAD);
        due("cell(0, -1)", x.cell(0, -1), BAD);
        HillSight y = read("G32000000t011s1");
        due("cell(0, 4) without hidden cells", y.cell(0, 4), NONE);
        HillSight z = read("G52" + "0".repeat(10) + "t020t070s1");
        due("cell(0, 4)", z.cell(0, 4), 0);
        due("cell(9, 4)", z.cell(9, 4), 1);
        due("cell(6, 4)", z.cell(6, 4), NONE);
    }

    private static void tower() {
        promise = 8;
        HillSight x = read(WALL + "t001t031t002");
        due("tower(1, 0)", x.tower(1, 0), 3);
        due("tower(2, 1)", x.tower(2, 1), 2);
        due("tower(0, 2)", x.tower(0, 2), 7);
        due("tower(0, 3)", x.tower(0, 3), 0);
        due("tower(1, 3)", x.tower(1, 3), 3);
        due("tower(3, 0)", x.tower(3, 0), UNKNOWN);
        due("tower(-1, 9)", x.tower(-1, 9), UNKNOWN);
        due("tower(LOW, 0)", x.tower(LOW, 0), UNKNOWN);
        due("tower(0, 4)", x.tower(0, 4), BAD);
        due("tower(0, -1)", x.tower(0, -1), BAD);
        x.set(0, 9);
        due("tower(0, 2), whatever eye is", x.tower(0, 2), 7);
        x.raze(2);
        due("tower(0, 3) after raze(2)", x.tower(0, 3), 4);
        due("tower(1, 3) after raze(2)", x.tower(1, 3), 3);
    }

    private static void raise() {
        promise = 9;
        HillSight x = new HillSight();
        due("raise(3, 9)", x.raise(3, 9), 0);
        due("raise(3, 0)", x.raise(3, 0), 9);
        due("raise(3, 0)", x.raise(3, 0), 0);
        due("about(9)", x.about(9), 3);
        due("raise(4, 10)", x.raise(4, 10), UNKNOWN);
        due("raise(-1, 1)", x.raise(-1, 1), UNKNOWN);
        due("raise(0, 10)", x.raise(0, 10), BAD);
        due("raise(0, -1)", x.raise(0, -1), BAD);
        due("about(9) after errors", x.about(9), 3);
        due("cell(0, 0) after errors", x.cell(0, 0), 0);
    }

    private static void build() {
        promise = 10;
        HillSight x = new HillSight();
        due("build(3, 9)", x.build(3, 9), 1);
        due("build(3, 9)", x.build(3, 9), 2);
        due("build(0, 0)", x.build(0, 0), 3);
        due("tower(1, 0)", x.tower(1, 0), 3);
        due("tower(2, 1)", x.tower(2, 1), 0);
        due("build(4, 10)", x.build(4, 10), UNKNOWN);
        due("build(0, 10)", x.build(0, 10), BAD);
        due("build(0, -1)", x.build(0, -1), BAD);
        due("build(1, 1)", x.build(1, 1), 4);
        due("build(2, 2)", x.build(2, 2), 5);
        due("build(4, 1) of six", x.build(4, 1), UNKNOWN);
        due("build(0, 10) of six", x.build(0, 10), BAD);
        due("build(0, 1) of six", x.build(0, 1), FULL);
        due("about(9)", x.about(9), 5);
    }

    private static void raze() {
        promise = 11;
        HillSight x = read("G220000t001t012t023");
        due("raze(3)", x.raze(3), UNKNOWN);
        due("raze(-1)", x.raze(-1), UNKNOWN);
        due("about(9)", x.about(9), 0);
        due("raze(1)", x.raze(1), 2);
        due("tower(0, 0)", x.tower(0, 0), 0);
        due("tower(1, 0)", x.tower(1, 0), 2);
        due("tower(1, 1)", x.tower(1, 1), 3);
        due("tower(2, 0)", x.tower(2, 0), UNKNOWN);
        due("raze(0)", x.raze(0), 1);
        due("raze(0)", x.raze(0), 0);
        due("raze(0)", x.raze(0), UNKNOWN);
        due("about(9)", x.about(9), 3);
    }

    private static void set() {
        promise = 12;
        HillSight x = new HillSight();
        int[] first = {1, 0, 0, 9};
        for (int what = 0; what < 4; what++) {
            due("set(" + what + ", 9)", x.set(what, 9), first[what]);
            due("set(" + what + ", 10)", x.set(what, 10), BAD);
            due("set(" + what + ", -1)", x.set(what, -1), BAD);
            due("set(" + what + ", 0)", x.set(what, 0), what == 3 ? BAD : 9);
        }
        due("set(3, 1)", x.set(3, 1), 9);
        due("set(3, 1)", x.set(3, 1), 1);
        due("set(4, 1)", x.set(4, 1), BAD);
        due("set(-1, 1)", x.set(-1, 1), BAD);
        due("set(HIGH, HIGH)", x.set(HIGH, HIGH), BAD);
        due("about(9)", x.about(9), 9);
    }

    private static void undo() {
        promise = 13;
        HillSight x = read("G220000t001t012t023");
        due("undo()", x.undo(), LATE);
        x.raze(1);
        x.set(2, 7);
        x.raise(3, 8);
        x.build(3, 9);
        x.raise(3, 8);
        due("undo() of nothing different", x.undo(), 4);
        due("about(2)", x.about(2), 3);
        due("undo() of build", x.undo(), 3);
        due("about(2)", x.about(2), 2);
        due("undo() of raise", x.undo(), 2);
        due("cell(3, 0)", x.cell(3, 0), 0);
        due("undo() of set", x.undo(), 1);
        due("about(5)", x.about(5), 0);
        due("undo() of raze", x.undo(), 0);
        due("tower(1, 0)", x.tower(1, 0), 1);
        due("tower(1, 1)", x.tower(1, 1), 2);
        due("tower(2, 0)", x.tower(2, 0), 2);
        due("tower(2, 1)", x.tower(2, 1), 3);
        due("undo()", x.undo(), LATE);
        for (int i = 1; i <= 16; i++) {
            x.raise(0, i % 10);
            due("about(9)", x.about(9), Math.min(i, 14));
        }
        for (int i = 13; i >= 0; i--) {
            due("undo()", x.undo(), i);
        }
        due("undo() of the fifteenth", x.undo(), LATE);
        due("cell(0, 0) after two lost changes", x.cell(0, 0), 2);
        HillSight y = read("G220000t001t012t023");
        y.raise(0, 1);
        y.raze(0);
        for (int i = 1; i <= 13; i++) {
            y.set(i % 4, 5);
        }
        for (int i = 13; i >= 0; i--) {
            due("undo()", y.undo(), i);
        }
        due("tower(0, 1)", y.tower(0, 1), 1);
        due("tower(2, 1)", y.tower(2, 1), 3);
        due("about(6)", y.about(6), 9);
        due("cell(0, 0) after a lost change", y.cell(0, 0), 1);
    }

    private static void sees() {
        promise = 14;
        HillSight x = read(WALL);
        due("sees(0, 4, 0)", x.sees(0, 4, 0), 0);
        due("sees(0, 4, 1)", x.sees(0, 4, 1), 4);
        due("sees(0, 4, 2)", x.sees(0, 4, 2), 2);
        due("sees(0, 4, 3)", x.sees(0, 4, 3), 1100);
        due("sees(0, 4, 4)", x.sees(0, 4, 4), 6);
        due("sees(0, 3, 2)", x.sees(0, 3, 2), 2);
        due("sees(0, 3, 4)", x.sees(0, 3, 4), 9);
        due("sees(0, 2, 0)", x.sees(0, 2, 0), 1);
        due("sees(0, 2, 2)", x.sees(0, 2, 2), NONE);
        due("sees(0, 2, 3)", x.sees(0, 2, 3), 960);
        due("sees(0, 2, 4)", x.sees(0, 2, 4), 0);
        due("sees(1, 1, 0)", x.sees(1, 1, 0), 1);
        due("sees(1, 1, 1)", x.sees(1, 1, 1), 0);
        due("sees(1, 1, 2)", x.sees(1, 1, 2), NONE);
        due("sees(1, 1, 3)", x.sees(1, 1, 3), NONE);
        due("sees(1, 1, 4)", x.sees(1, 1, 4), 0);
        due("sees(1, 7, 3)", x.sees(1, 7, 3), NONE);
        x.set(0, 6);
        due("sees(0, 4, 0) at the line", x.sees(0, 4, 0), 1);
        due("sees(0, 4, 3) at the line", x.sees(0, 4, 3), 1000);
        due("sees(0, 4, 2) at the line", x.sees(0, 4, 2), NONE);
        x.set(0, 1);
        x.set(3, 3);
        due("sees(0, 4, 0) beyond sight", x.sees(0, 4, 0), 0);
        due("sees(0, 4, 2) beyond sight", x.sees(0, 4, 2), 2);
        due("sees(0, 4, 4) beyond sight", x.sees(0, 4, 4), NONE);
        due("sees(5, 9, 0) beyond sight", x.sees(5, 9, 0), 0);
        due("sees(5, 8, 0) at sight", x.sees(5, 8, 0), 1);
        due("sees(0, 10, 9)", x.sees(0, 10, 9), UNKNOWN);
        due("sees(-1, 0, 0)", x.sees(-1, 0, 0), UNKNOWN);
        due("sees(10, 0, 0)", x.sees(10, 0, 0), UNKNOWN);
        due("sees(0, 0, 5)", x.sees(0, 0, 5), BAD);
        due("sees(0, 0, -1)", x.sees(0, 0, -1), BAD);
    }

    /** Points between cells, the bend, the mark, and the largest numbers. */
    private static void seesBetween() {
        HillSight above = read("G520200000000");
        HillSight below = read("G520000002000");
        for (HillSight x : new HillSight[] {above, below}) {
            due("sees(0, 7, 2) past the middle", x.sees(0, 7, 2), 1);
            due("sees(0, 7, 3) past the middle", x.sees(0, 7, 3), 1030);
            due("sees(7, 0, 2) past the middle", x.sees(7, 0, 2), 1);
            due("sees(5, 2, 2) past the middle", x.sees(5, 2, 2), 1);
        }
        due("sees(0, 8, 2) along the upper row", above.sees(0, 8, 2), 1);
        due("sees(0, 8, 2) not along the lower row", below.sees(0, 8, 2), NONE);
        due("sees(8, 0, 2) from the other end", above.sees(8, 0, 2), 2);
        HillSight steep = read("G360000700000000" + "00000");
        due("sees(0, 7, 2) down", steep.sees(0, 7, 2), 1);
        steep = read("G360007000000000" + "00000");
        due("sees(0, 7, 2) down the other one", steep.sees(0, 7, 2), 1);
        HillSight close = read("G32010000m1b1");
        due("sees(0, 2, 3) just above the line", close.sees(0, 2, 3), 1002);
        due("sees(0, 2, 0) just above the line", close.sees(0, 2, 0), 0);
        close.set(2, 0);
        due("sees(0, 2, 0) without bend", close.sees(0, 2, 0), 1);
        HillSight diagonal = read("G33000040000");
        due("sees(0, 8, 3)", diagonal.sees(0, 8, 3), 1000 + 80 - 10);
        due("sees(2, 6, 2)", diagonal.sees(2, 6, 2), 1);
        HillSight bent = read("G62" + "0".repeat(12) + "b9");
        due("sees(0, 5, 2)", bent.sees(0, 5, 2), 1);
        due("sees(0, 5, 3)", bent.sees(0, 5, 3), 1000 + 5 * 9 * 3 * 2 - 20);
        due("sees(0, 5, 4)", bent.sees(0, 5, 4), 18);
        due("sees(0, 2, 3)", bent.sees(0, 2, 3), 1000 + 18 - 10);
        bent.set(1, 9);
        due("sees(0, 5, 3) with mark", bent.sees(0, 5, 3), 1000 + 5 * 9 * 2 * 3 - 10 * (3 + 2 * 9));
        HillSight high = read("G62000090" + "000000b9e9");
        due("sees(0, 5, 4) over the highest", high.sees(0, 5, 4), 63);
        HillSight deep = read("G22" + "9999" + "e9m9");
        due("sees(0, 3, 3)", deep.sees(0, 3, 3), NONE);
        HillSight valley = read("G62" + "900009" + "000000" + "e9m9");
        due("sees(0, 5, 3)", valley.sees(0, 5, 3), 100);
    }

    private static void view() {
        promise = 15;
        HillSight x = read(WALL);
        due("view(0)", x.view(0), 0b0111100111L);
        due("view(5)", x.view(5), 0b1111100111L);
        x.set(3, 1);
        due("view(0) at sight 1", x.view(0), 1 + 2 + 32 + 64);
        due("view(10)", x.view(10), UNKNOWN);
        due("view(-1)", x.view(-1), UNKNOWN);
        HillSight y = read("G66" + "0".repeat(36));
        due("view(35)", y.view(35), (1L << 36) - 1);
    }

    private static void watched() {
        promise = 16;
        HillSight x = read("G66" + "0".repeat(36) + "t350t000s1");
        due("watched(0)", x.watched(0), 1L << 35 | 1L << 34 | 1L << 29 | 1L << 28);
        due("watched(1)", x.watched(1), 1 + 2 + 64 + 128);
        x.set(0, 9);
        x.set(3, 9);
        due("watched(0) at sight 9", x.watched(0), (1L << 36) - 1);
        x.raise(28, 1);
        due("watched(0) behind a hill", x.watched(0) & 1, 0);
        due("view(35) with eye 9", x.view(35) & 1, 1);
        due("watched(2)", x.watched(2), UNKNOWN);
        due("watched(-1)", x.watched(-1), UNKNOWN);
    }

    private static void joined() {
        promise = 17;
        HillSight x = read("G52" + "0".repeat(10) + "t000t020t040s1");
        long first = 0b0001100011L, second = 0b0111001110L, third = 0b1100011000L;
        due("watched(0)", x.watched(0), first);
        due("watched(1)", x.watched(1), second);
        due("watched(2)", x.watched(2), third);
        due("joined(0)", x.joined(0), 0b1111111111L);
        due("joined(1)", x.joined(1), 0);
        due("joined(2)", x.joined(2), first ^ second ^ third);
        due("joined(3)", x.joined(3), 0b0000100001L);
        due("joined(4)", x.joined(4), BAD);
        due("joined(-1)", x.joined(-1), BAD);
        x.raze(2);
        due("joined(1) of two", x.joined(1), 0b0001000010L);
        due("joined(2) of two", x.joined(2), 0b0110101101L);
        x.raze(0);
        for (int way = 0; way < 4; way++) {
            due("joined of one", x.joined(way), second);
        }
        x.raze(0);
        for (int way = 0; way < 4; way++) {
            due("joined of none", x.joined(way), 0);
        }
    }

    private static void hollow() {
        promise = 18;
        HillSight x = read("G52" + "0".repeat(10) + "t020t070s1");
        due("hollow(0)", x.hollow(0), 1 + 32);
        due("hollow(1)", x.hollow(1), 16 + 512);
        due("hollow(2)", x.hollow(2), UNKNOWN);
        due("hollow(-1)", x.hollow(-1), UNKNOWN);
        due("hollow(HIGH)", x.hollow(HIGH), UNKNOWN);
        due("about(8)", x.about(8), 2);
        x.set(3, 2);
        due("hollow(0) without hidden cells", x.hollow(0), UNKNOWN);
        // Cells that touch at a corner only, and row ends that follow each other, are not connected.
        HillSight y = read("G44" + "0".repeat(16) + "t000t150s1");
        due("hollow(0) at a corner", y.hollow(0), 0b0000000011001100L);
        due("hollow(1) at a corner", y.hollow(1), 0b0011001100000000L);
        HillSight z = read("G66" + "0".repeat(36));
        due("hollow(0) of all", z.hollow(0), (1L << 36) - 1);
    }

    private static void last() {
        promise = 19;
        HillSight x = read("G55" + "0".repeat(25));
        int[] ends = {14, 24, 22, 20, 10, 0, 2, 4};
        for (int d = 0; d < 8; d++) {
            due("last(12, " + d + ")", x.last(12, d), ends[d]);
        }
        due("last(4, 0) at the edge", x.last(4, 0), 4);
        due("last(0, 7) at the corner", x.last(0, 7), 0);
        HillSight y = read("G62" + "003009" + "000000");
        due("last(0, 0) past hidden cells", y.last(0, 0), 5);
        due("sees(0, 4, 0)", y.sees(0, 4, 0), 0);
        y.set(3, 4);
        due("last(0, 0) at sight 4", y.last(0, 0), 2);
        due("last(12, 8)", y.last(12, 8), UNKNOWN);
        due("last(-1, 0)", y.last(-1, 0), UNKNOWN);
        due("last(0, 8)", y.last(0, 8), BAD);
        due("last(0, -1)", y.last(0, -1), BAD);
    }

    private static void best() {
        promise = 20;
        HillSight x = read("G55" + "0".repeat(25) + "s1");
        due("best(0, 0)", x.best(0, 0), 6);
        due("best(0, 1)", x.best(0, 1), 16);
        x.build(6, 0);
        due("best(0, 0) besides", x.best(0, 0), 18);
        due("best(0, 1) besides", x.best(0, 1), 8);
        for (int i = 0; i < 4; i++) {
            x.build(6, 0);
        }
        due("best(0, 0) with five", x.best(0, 0), 18);
        due("best(0, 0) changes nothing", x.about(2), 5);
        HillSight y = read("G52" + "09090" + "99999" + "e9");
        due("best(9, 1)", y.best(9, 1), 0);
        due("best(0, 0)", y.best(0, 0), 1);
        due("best(0, 0) of equal ones", new HillSight().best(0, 0), 0);
        // A place below the grid would see all cells.
        HillSight z = read("G4201100000");
        due("best(0, 0) inside the grid", z.best(0, 0), 5);
        due("best(0, 1) inside the grid", z.best(0, 1), 1);
        due("best(-1, 0)", y.best(-1, 0), BAD);
        due("best(10, 0)", y.best(10, 0), BAD);
        due("best(0, 2)", y.best(0, 2), BAD);
        due("best(0, -1)", y.best(0, -1), BAD);
    }

    private static void two() {
        promise = 21;
        HillSight x = read("G55" + "0".repeat(25) + "s1");
        due("two(0, 0)", x.two(0, 0), 6);
        due("two(0, 1)", x.two(0, 1), 18);
        due("two(0, 2)", x.two(0, 2), 8);
        HillSight y = read("G62" + "0".repeat(12) + "s1");
        due("two(0, 0) of strips", y.two(0, 0), 1);
        due("two(0, 1) of strips", y.two(0, 1), 4);
        due("two(0, 2) of strips", y.two(0, 2), 0);
        HillSight z = new HillSight();
        due("two(9, 0) the same", z.two(9, 0), 0);
        due("two(9, 1) the same", z.two(9, 1), 0);
        due("two(-1, 0)", z.two(-1, 0), BAD);
        due("two(10, 0)", z.two(10, 0), BAD);
        due("two(0, 3)", z.two(0, 3), BAD);
        due("two(0, -1)", z.two(0, -1), BAD);
        due("two changes nothing", z.about(2) + z.about(9), 0);
    }

    private static void part() {
        promise = 22;
        HillSight x = read("G55" + "0".repeat(25) + "s1");
        due("part(true) of none", x.part(true), 0);
        due("part(false) of none", x.part(false), 1);
        x.build(0, 0);
        due("part(true)", x.part(true), 4);
        due("part(false)", x.part(false), 25);
        x.build(3, 0);
        due("part(true) of two", x.part(true), 2);
        due("part(false) of two", x.part(false), 5);
        x.set(3, 9);
        due("part(true) of all", x.part(true), 1);
        due("part(false) of all", x.part(false), 1);
    }

    private static void judge() {
        promise = 23;
        HillSight x = read("G52" + "0".repeat(10) + "t020s1");
        due("judge(0, 0)", x.judge(0, 0), BAD);
        due("judge(4, 0)", x.judge(4, 0), BAD);
        due("judge(1, -1)", x.judge(1, -1), BAD);
        due("judge(3, Long.MIN_VALUE)", x.judge(3, Long.MIN_VALUE), BAD);
        due("judge(1, 100000)", x.judge(1, 100000), BAD);
        due("judge(2, 10000000000)", x.judge(2, 10000000000L), BAD);
        due("judge(3, 1000000000000000)", x.judge(3, 1000000000000000L), BAD);
        due("judge(1, 0)", x.judge(1, 0), 0);
        due("judge(3, 40400) with leading zeros", x.judge(3, 40400), 0);
        due("judge(3, ...)", x.judge(3, 404007200040400L), NONE);
        due("judge(3, ...) second wrong", x.judge(3, 404007100040400L), 1);
        due("judge(3, ...) third wrong", x.judge(3, 404007200040401L), 2);
        due("judge: build, then see", x.judge(3, 200004020050010L), NONE);
        due("judge: sight, then see", x.judge(3, 632004000070000L), NONE);
        due("judge: raze, then hidden", x.judge(3, 300004100071000L), NONE);
        due("judge: raze twice", x.judge(2, 3000030000L), 1);
        due("judge changes nothing", x.about(2) * 100 + x.about(7) * 10 + x.about(9), 140);
        for (int i = 0; i < 3; i++) {
            x.build(0, 0);
        }
        due("judge: build twice of four", x.judge(2, 2000020000L), 1);
        due("judge: raze gives room", x.judge(3, 200003000020000L), NONE);
    }

    private static void judgeEvents() {
        HillSight x = read("G52" + "0".repeat(10) + "t020s1");
        int[] right = {10090, 10990, 10000, 20990, 30000, 40400, 50210, 50310, 50000, 60000, 60900, 61900,
            62900, 63100, 63900, 72000};
        int[] not = {99999, 80000, 90000, 10091, 11000, 19990, 20091, 21000, 31000, 30100, 30010, 30001, 40300,
            40410, 40401, 40500, 50200, 50220, 50211, 50010, 51000, 51010, 63000, 64100, 60010, 60001, 71000,
            72100, 72010, 72001, 200, 1};
        for (int event : right) {
            due("judge(1, " + event + ")", x.judge(1, event), NONE);
        }
        for (int event : not) {
            due("judge(1, " + event + ")", x.judge(1, event), 0);
        }
    }

    private static void find() {
        promise = 24;
        HillSight x = new HillSight();
        due("find(4, 2)", x.find(4, 2), UNKNOWN);
        due("find(-1, 0)", x.find(-1, 0), UNKNOWN);
        due("find(0, 2)", x.find(0, 2), BAD);
        due("find(0, -1)", x.find(0, -1), BAD);
        for (int i = 1; i <= 6; i++) {
            due("find(0, 1)", x.find(0, 1), i);
        }
        due("find(4, 1) of seven", x.find(4, 1), UNKNOWN);
        due("find(0, 2) of seven", x.find(0, 2), BAD);
        due("find(0, 1) of seven", x.find(0, 1), FULL);
        due("about(10)", x.about(10), 6);
        due("about(9)", x.about(9), 0);
    }

    private static void lose() {
        promise = 25;
        HillSight x = new HillSight();
        due("lose()", x.lose(), 0);
        x.find(0, 0);
        x.find(1, 1);
        due("which()", x.which(), 0);
        due("lose()", x.lose(), 2);
        due("about(10)", x.about(10), 0);
        due("which() after lose()", x.which(), 15);
        due("find(0, 1)", x.find(0, 1), 1);
    }

    private static void which() {
        promise = 26;
        HillSight x = read("G62" + "0".repeat(12) + "s1");
        due("which() of none", x.which(), (1L << 12) - 1);
        x.find(1, 1);
        due("which() near 1", x.which(), 0b000111000111L);
        x.find(3, 0);
        due("which() not near 3", x.which(), 0b000011000011L);
        x.set(3, 9);
        due("which() as things are now", x.which(), 0);
        x.lose();
        x.find(1, 1);
        x.find(11, 0);
        put(x, "G220000");
        x.map();
        due("which() after another map", x.which(), 15);
        x.lose();
        put(x, "G62" + "0".repeat(12));
        x.map();
        x.find(11, 1);
        put(x, "G220000");
        x.map();
        due("which() of a cell that is gone", x.which(), 0);
        HillSight y = read("G52" + "00300" + "00000" + "e0");
        y.find(4, 1);
        due("sees(0, 4, 0)", y.which() & 1, 0);
        y.set(0, 6);
        due("sees(0, 4, 0) with eye", y.which() & 1, 1);
    }

    private static void share() {
        promise = 27;
        HillSight x = read("G52" + "0".repeat(10) + "t000t020t040s1");
        due("share(0, true)", x.share(0, true), 3);
        due("share(0, false)", x.share(0, false), 1);
        due("share(1, true)", x.share(1, true), 4);
        x.build(1, 0);
        // Tower 0 shares cells 0, 5 with tower 3 and cells 1, 6 with towers 1 and 3.
        due("share(0, true) of four", x.share(0, true), 5);
        due("share(0, false) of four", x.share(0, false), 3);
        due("share(4, true)", x.share(4, true), UNKNOWN);
        due("share(-1, false)", x.share(-1, false), UNKNOWN);
        HillSight y = read("G220000t000t000t000t000t000");
        due("share(4, true) of five", y.share(4, true), 4);
        due("share(4, false) of five", y.share(4, false), 5);
    }

    private static void chance() {
        promise = 28;
        HillSight x = read("G52" + "0".repeat(10) + "t000t010t000s1");
        due("chance(0, 5, true)", x.chance(0, 5, true), 7);
        due("chance(0, 5, false)", x.chance(0, 5, false), 8);
        due("chance(2, 4, true)", x.chance(2, 4, true), 3);
        due("chance(2, 4, false)", x.chance(2, 4, false), 5);
        due("chance(0, 3, true)", x.chance(0, 3, true), 973);
        due("chance(0, 3, false)", x.chance(0, 3, false), 1000);
        due("chance(4, 0, true) unseen", x.chance(4, 0, true), 0);
        due("chance(4, 0, false) unseen", x.chance(4, 0, false), 1);
        due("chance(0, 0, true)", x.chance(0, 0, true), 1);
        due("chance(0, 0, false)", x.chance(0, 0, false), 1);
        due("chance(0, 10, true)", x.chance(0, 10, true), 0);
        due("chance(0, 10, false)", x.chance(0, 10, false), 1);
        due("chance(10, 11, true)", x.chance(10, 11, true), UNKNOWN);
        due("chance(-1, 0, true)", x.chance(-1, 0, true), UNKNOWN);
        due("chance(0, 11, true)", x.chance(0, 11, true), BAD);
        due("chance(0, -1, false)", x.chance(0, -1, false), BAD);
        HillSight y = read("G220000t000t000t000t000t000");
        due("chance(3, 9, true) of five", y.chance(3, 9, true), 100000 - 59049);
        due("chance(3, 9, false) of five", y.chance(3, 9, false), 100000);
    }

    private static void seed() {
        promise = 29;
        HillSight x = new HillSight();
        due("seed(-5)", x.seed(-5), 0);
        due("seed(Long.MIN_VALUE)", x.seed(Long.MIN_VALUE), -5);
        due("seed(Long.MAX_VALUE)", x.seed(Long.MAX_VALUE), Long.MIN_VALUE);
        due("seed(0)", x.seed(0), Long.MAX_VALUE);
    }

    private static void drawn() {
        promise = 30;
        HillSight x = read("G62" + "0".repeat(12) + "t000");
        due("drawn(0)", x.drawn(0), BAD);
        due("drawn(21)", x.drawn(21), BAD);
        due("drawn(-1)", x.drawn(-1), BAD);
        due("seed(0) after errors", x.seed(0), 0);
        x.drawn(1);
        due("seed(-1) after one", x.seed(-1), 1442695040888963407L);
        x.drawn(1);
        due("seed(1) after one", x.seed(1), 1442695040888963407L - 6364136223846793005L);
        // The number 1 becomes 7806831264735756412, whose highest 31 bits are 908834774: cell 2, height 3,
        // which hides the cells 3, 4, 5, 10 and 11.
        due("drawn(1)", x.drawn(1), 5);
        due("seed(0)", x.seed(0), 7806831264735756412L);
        due("cell(2, 0) stays", x.cell(2, 0), 0);
        due("about(9)", x.about(9), 0);
        int sum = 0;
        HillSight y = read("G62" + "0".repeat(12) + "t000");
        long v = 0;
        for (int i = 0; i < 10; i++) {
            v = v * 6364136223846793005L + 1442695040888963407L;
            y.raise((int) ((v >>> 33) % 12), (int) ((v >>> 39) % 10));
            sum += y.about(7);
        }
        due("drawn(10)", x.drawn(10), sum);
        due("seed(0) after ten", x.seed(0), v);
        due("drawn(20) without towers", new HillSight().drawn(20), 80);
    }

    private static void keep() {
        promise = 31;
        HillSight x = read("G220000t001t012");
        due("keep(2)", x.keep(2), UNKNOWN);
        due("keep(-1)", x.keep(-1), UNKNOWN);
        due("keep(LOW)", x.keep(LOW), UNKNOWN);
        x.raise(0, 3);
        due("keep(1)", x.keep(1), 2);
        due("about(9)", x.about(9), 1);
        due("again(0)", x.again(0), LATE);
        x.raise(0, 4);
        x.raze(0);
        due("keep(1) again", x.keep(1), 1);
        x.raise(0, 5);
        x.raze(0);
        due("again(1)", x.again(1), 1);
        due("cell(0, 0)", x.cell(0, 0), 4);
        due("tower(0, 0)", x.tower(0, 0), 1);
        due("tower(0, 1)", x.tower(0, 1), 2);
    }

    private static void again() {
        promise = 32;
        HillSight x = read("G220000t001t012");
        due("again(2)", x.again(2), UNKNOWN);
        due("again(-1)", x.again(-1), UNKNOWN);
        due("again(0)", x.again(0), LATE);
        x.keep(0);
        for (int what = 0; what < 4; what++) {
            x.set(what, 5);
        }
        x.raise(3, 7);
        x.raze(0);
        x.keep(1);
        x.find(0, 1);
        x.seed(9);
        due("again(0)", x.again(0), 2);
        int[] first = {2, 2, 2, 1, 0, 0, 9};
        for (int what = 0; what < first.length; what++) {
            due("about(" + what + ")", x.about(what), first[what]);
        }
        due("cell(3, 0)", x.cell(3, 0), 0);
        due("about(9)", x.about(9), 0);
        due("undo()", x.undo(), LATE);
        due("about(10)", x.about(10), 1);
        due("about(11)", x.about(11), 15);
        due("seed(0)", x.seed(0), 9);
        due("again(1)", x.again(1), 1);
        due("cell(3, 0)", x.cell(3, 0), 7);
        due("about(6)", x.about(6), 5);
        x.raise(3, 8);
        due("again(1) once more", x.again(1), 1);
        due("cell(3, 0) stays saved", x.cell(3, 0), 7);
        x.raise(3, 8);
        due("again(2) changes nothing", x.again(2) + x.about(9), UNKNOWN + 1);
    }
}
