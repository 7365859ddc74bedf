import java.util.ArrayList;
import java.util.List;

/**
 * The sections CHANGES and OBSERVATIONS of the description, and the promises of what is kept: 1, 6 to 13, 24 to 26, 31
 * and 32.
 */
final class StateSentences extends Sentences {
    static void test() {
        section("Description");
        changes();
        latestChanges();
        computations();
        observations();
        newObject();
        about();
        cell();
        cellViews();
        tower();
        raise();
        build();
        raze();
        set();
        undo();
        find();
        lose();
        which();
        keep();
        again();
    }

    private static void changes() {
        says("CHANGES. Each successful call of raise(), build(), raze() and set() is a change, also if nothing becomes"
            + " different.");
        HillSight x = new HillSight();
        x.raise(0, 0);
        due("about(9) after raise() to the same", x.about(9), 1);
        x.set(3, 9);
        due("about(9) after set() to the same", x.about(9), 2);
        x.build(0, 0);
        due("about(9) after build()", x.about(9), 3);
        x.raze(0);
        due("about(9) after raze()", x.about(9), 4);
        x.raise(4, 0);
        x.raise(0, 10);
        x.build(4, 0);
        x.build(0, 10);
        x.raze(0);
        x.set(4, 0);
        x.set(3, 0);
        due("about(9) after calls without success", x.about(9), 4);
        x.raise(1, 5);
        x.raise(1, 5);
        due("undo() of no difference", x.undo(), 5);
        due("cell(1, 0)", x.cell(1, 0), 5);
        due("undo()", x.undo(), 4);
        due("cell(1, 0)", x.cell(1, 0), 0);
    }

    private static void latestChanges() {
        says("The latest 14 changes are kept and can be undone one by one.");
        for (int made = 13; made <= 31; made++) {
            HillSight x = new HillSight();
            for (int i = 1; i <= made; i++) {
                x.raise(i % 4, i % 10);
            }
            int kept = Math.min(made, 14);
            due("about(9) of " + made, x.about(9), kept);
            for (int i = 1; i <= kept; i++) {
                due("undo() of " + made, x.undo(), kept - i);
                int undone = made - i + 1;
                due("the cell of change " + undone, x.cell(undone % 4, 0), undone <= 4 ? 0 : (undone - 4) % 10);
            }
            due("undo() of what is not kept", x.undo(), LATE);
        }
        List<String> grids = new ArrayList<>();
        HillSight x = read("G220000t001t012t023t034t005");
        for (int i = 0; i < 30; i++) {
            grids.add(grid(x));
            changeOfKind(x, i);
        }
        due("about(9) of all kinds", x.about(9), 14);
        for (int i = 29; i >= 16; i--) {
            x.undo();
            dueText("the grid before change " + i, grid(x), grids.get(i));
        }
        due("undo() of change 15", x.undo(), LATE);
    }

    private static void changeOfKind(HillSight x, int i) {
        switch (i % 4) {
            case 0 -> x.raze(i % 5);
            case 1 -> x.raise(i % 3, i % 10);
            case 2 -> x.build(i % 4, i % 7);
            default -> x.set(i / 4 % 4, 1 + i % 9);
        }
    }

    private static void computations() {
        says("All other computations change nothing, if nothing else is told.");
        HillSight x = rich();
        for (int what = 0; what <= 4; what++) {
            x.about(what + 7);
            x.cell(3, what);
            x.sees(0, 5, what);
            x.tower(1, what);
            x.joined(what);
            x.last(4, what);
            x.best(9, what);
            x.two(3, what);
        }
        x.fault();
        x.view(0);
        x.watched(1);
        x.hollow(0);
        x.part(true);
        x.judge(3, 105992000063900L);
        x.judge(3, 300003000030000L);
        x.which();
        x.share(0, true);
        x.chance(2, 3, false);
        dueText("an object after questions", wholeOf(x), wholeOf(rich()));
    }

    private static void observations() {
        says("OBSERVATIONS. There are up to six observations.");
        HillSight x = read("G62" + zeros(12) + "s1");
        for (int i = 1; i <= 6; i++) {
            due("find(11, 1), observation " + i, x.find(11, 1), i);
        }
        due("find(11, 1), observation 7", x.find(11, 1), FULL);
        HillSight sixth = new HillSight();
        for (int i = 0; i < 5; i++) {
            sixth.find(3, 1);
        }
        due("which() of five", sixth.which(), 15);
        sixth.find(3, 0);
        due("which() of six, the sixth wrong", sixth.which(), 0);
        says("An observation says that a cell is visible, or not, from an unknown cell with the rise eye.");
        due("which() at sight 1", x.which(), 1 << 4 | 1 << 5 | 1 << 10 | 1 << 11);
        HillSight y = read("G52" + "00300" + "00000" + "e0");
        y.find(4, 1);
        y.find(0, 1);
        due("which() with eye 0", y.which() & 1, 0);
        y.set(0, 5);
        due("which() with eye 5", y.which() & 1, 0);
        y.set(0, 6);
        due("which() with eye 6", y.which() & 1, 1);
        says("They stay when another map is read; a cell that does not exist is not visible.");
        put(x, "G220000");
        x.map();
        due("about(10)", x.about(10), 6);
        due("which() with a visible cell that is gone", x.which(), 0);
        put(x, "G62" + zeros(12) + "s1");
        x.map();
        due("which() with the cell there again", x.which(), 1 << 4 | 1 << 5 | 1 << 10 | 1 << 11);
        x.lose();
        x.find(4, 0);
        x.find(3, 1);
        put(x, "G220000");
        x.map();
        due("which() with a cell not visible that is gone", x.which(), 15);
        leads("The constructor and the methods follow, a promise each: the signature, then what it does.");
    }

    private static void newObject() {
        promise(1);
        says("Creates a grid of four cells with the height 0, without towers, with the initial settings; the text is"
            + " empty, there are no observations, nothing is saved, and the random number is 0.");
        HillSight x = new HillSight();
        dueText("a new object", grid(x), "2 2: 0 1 0 0 9 0000");
        int[] rest = {4, 1, 0, 0, 0};
        for (int what = 7; what <= 11; what++) {
            due("about(" + what + ")", x.about(what), rest[what - 7]);
        }
        due("cell(3, 0)", x.cell(3, 0), 0);
        due("cell(4, 0)", x.cell(4, 0), UNKNOWN);
        due("tower(0, 0)", x.tower(0, 0), UNKNOWN);
        due("which()", x.which(), 15);
        due("again(0)", x.again(0), LATE);
        due("again(1)", x.again(1), LATE);
        due("undo()", x.undo(), LATE);
        due("fault()", x.fault(), 0);
        due("seed(5)", x.seed(5), 0);
        HillSight used = full();
        used.seed(9);
        dueText("a new object after another was used", wholeOf(new HillSight()), "2 2: 0 1 0 0 9 0000 hidden 4"
            + " regions 1 changes 0 observations 0 fit 15 text 0 fault 0 random 0\n  saved: -3, 2 2: 0 1 0 0 9 0000"
            + "\n  saved: -3, 2 2: 0 1 0 0 9 0000");
        due("about(2) of the other one", used.about(2), 5);
    }

    private static void about() {
        promise(6);
        leads("Returns a number.");
        says("what: 0 w; 1 h; 2 towers; 3 eye; 4 mark; 5 bend; 6 sight; 7 hidden cells; 8 regions; 9 changes that are"
            + " kept; 10 observations; 11 characters of the text Returns the number;");
        HillSight x = read("G34" + zeros(12) + "t000s1e4m5b6");
        x.raise(11, 2);
        x.find(2, 0);
        x.find(3, 1);
        int[] now = {3, 4, 1, 4, 5, 6, 1, 8, 1, 1, 2, 27};
        for (int what = 0; what < 12; what++) {
            due("about(" + what + ")", x.about(what), now[what]);
        }
        HillSight most = full();
        due("about(2) at most", most.about(2), 5);
        due("about(9) at most", most.about(9), 14);
        due("about(10) at most", most.about(10), 6);
        due("about(11) at most", most.about(11), 90);
        HillSight all = read("G66" + zeros(36));
        due("about(7) of all cells", all.about(7), 36);
        due("about(8) of all cells", all.about(8), 1);
        all.build(0, 0);
        due("about(7) of none", all.about(7), 0);
        due("about(8) of none", all.about(8), 0);
        says("BAD if what is not 0 to 11.");
        for (int what : new int[] {LOW, -1, 12, HIGH}) {
            due("about(" + what + ")", x.about(what), BAD);
        }
    }

    private static void cell() {
        promise(7);
        leads("Returns a property of a cell.");
        leads("cell: the cell");
        says("what: 0 its height;");
        HillSight x = read("G52" + "90000" + "00007" + "t000t020t000t000t000s1");
        due("cell(0, 0)", x.cell(0, 0), 9);
        due("cell(1, 0)", x.cell(1, 0), 0);
        due("cell(9, 0)", x.cell(9, 0), 7);
        says("1 the set of the towers on it;");
        due("cell(0, 1)", x.cell(0, 1), 1 + 4 + 8 + 16);
        due("cell(2, 1)", x.cell(2, 1), 2);
        due("cell(1, 1) without a tower", x.cell(1, 1), 0);
        says("2 how many towers see it;");
        due("cell(0, 2)", x.cell(0, 2), 4);
        due("cell(1, 2) of all", x.cell(1, 2), 5);
        due("cell(3, 2)", x.cell(3, 2), 1);
        due("cell(4, 2) of none", x.cell(4, 2), 0);
        due("cell(0, 2) without towers", new HillSight().cell(0, 2), 0);
    }

    private static void cellViews() {
        says("3 how many cells are in its view;");
        HillSight most = read("G66" + zeros(36));
        due("cell(0, 3) of all", most.cell(0, 3), 36);
        most.set(3, 1);
        due("cell(0, 3) at a corner", most.cell(0, 3), 4);
        due("cell(1, 3) at an edge", most.cell(1, 3), 6);
        due("cell(7, 3) inside", most.cell(7, 3), 9);
        HillSight low = read("G52" + "00300" + "00000" + "t009e0");
        due("cell(0, 3) with the rise eye", low.cell(0, 3), 7);
        says("4 its region, or NONE if it is not hidden");
        HillSight x = read("G52" + zeros(10) + "t020t070s1");
        due("cell(0, 4)", x.cell(0, 4), 0);
        due("cell(5, 4)", x.cell(5, 4), 0);
        due("cell(4, 4)", x.cell(4, 4), 1);
        due("cell(9, 4)", x.cell(9, 4), 1);
        due("cell(1, 4) that is seen", x.cell(1, 4), NONE);
        x.set(3, 9);
        due("cell(0, 4) with all seen", x.cell(0, 4), NONE);
        says("Returns the property; UNKNOWN if there is no such cell;");
        for (int c : new int[] {LOW, -1, 10, 35, 36, HIGH}) {
            for (int what = -1; what <= 5; what++) {
                due("cell(" + c + ", " + what + ")", x.cell(c, what), UNKNOWN);
            }
        }
        says("BAD if what is not 0 to 4.");
        for (int what : new int[] {LOW, -1, 5, HIGH}) {
            due("cell(0, " + what + ")", x.cell(0, what), BAD);
            due("cell(9, " + what + ")", x.cell(9, what), BAD);
        }
    }

    private static void tower() {
        promise(8);
        leads("Returns a property of a tower.");
        leads("tower: the tower");
        says("what: 0 its cell; 1 its rise;");
        HillSight x = read("G66" + zeros(36) + "t359t000t350t070t280s1");
        due("tower(0, 0)", x.tower(0, 0), 35);
        due("tower(0, 1)", x.tower(0, 1), 9);
        due("tower(1, 0)", x.tower(1, 0), 0);
        due("tower(1, 1)", x.tower(1, 1), 0);
        due("tower(4, 0)", x.tower(4, 0), 28);
        says("2 how many cells are in its view;");
        due("tower(0, 2)", x.tower(0, 2), 4);
        due("tower(3, 2)", x.tower(3, 2), 9);
        says("3 how many of these no other tower sees");
        due("tower(0, 3) with a twin", x.tower(0, 3), 0);
        due("tower(1, 3) within another view", x.tower(1, 3), 0);
        due("tower(3, 3)", x.tower(3, 3), 5);
        due("tower(4, 3)", x.tower(4, 3), 5);
        HillSight five = read("G62" + zeros(12) + "t000t050t020t050t000s1");
        int[] unshared = {0, 0, 4, 0, 0};
        for (int t = 0; t < 5; t++) {
            due("tower(" + t + ", 3) of five", five.tower(t, 3), unshared[t]);
        }
        due("tower(1, 3) with the first tower as twin", read("G220000t000t000").tower(1, 3), 0);
        due("tower(0, 3) with the last tower as twin", read("G220000t000t000").tower(0, 3), 0);
        HillSight alone = read("G66" + zeros(36) + "t000");
        due("tower(0, 2) of all", alone.tower(0, 2), 36);
        due("tower(0, 3) of the only one", alone.tower(0, 3), 36);
        says("Returns the property; UNKNOWN if there is no such tower;");
        for (int t : new int[] {LOW, -1, 5, 6, HIGH}) {
            for (int what = -1; what <= 4; what++) {
                due("tower(" + t + ", " + what + ")", x.tower(t, what), UNKNOWN);
            }
        }
        due("tower(1, 0) of one", alone.tower(1, 0), UNKNOWN);
        due("tower(0, 0) of none", new HillSight().tower(0, 0), UNKNOWN);
        says("BAD if what is not 0 to 3.");
        for (int what : new int[] {LOW, -1, 4, HIGH}) {
            due("tower(0, " + what + ")", x.tower(0, what), BAD);
        }
    }

    private static void raise() {
        promise(9);
        says("Sets the height of a cell.");
        HillSight x = read("G66" + zeros(36));
        x.raise(35, 9);
        x.raise(0, 1);
        dueText("the heights", grid(x), "6 6: 0 1 0 0 9 1" + zeros(34) + "9");
        leads("cell: the cell");
        says("height: the height, 0 to 9");
        due("raise(35, 0)", x.raise(35, 0), 9);
        due("raise(35, 9)", x.raise(35, 9), 0);
        says("Returns the previous height;");
        due("raise(0, 8)", x.raise(0, 8), 1);
        due("raise(0, 8)", x.raise(0, 8), 8);
        says("UNKNOWN if there is no such cell;");
        for (int c : new int[] {LOW, -1, 36, HIGH}) {
            due("raise(" + c + ", 3)", x.raise(c, 3), UNKNOWN);
            due("raise(" + c + ", 10)", x.raise(c, 10), UNKNOWN);
        }
        says("BAD if height is out of range.");
        for (int v : new int[] {LOW, -1, 10, HIGH}) {
            due("raise(0, " + v + ")", x.raise(0, v), BAD);
        }
        due("cell(0, 0)", x.cell(0, 0), 8);
    }

    private static void build() {
        promise(10);
        says("Adds a tower.");
        HillSight x = new HillSight();
        x.build(3, 9);
        x.build(0, 4);
        dueText("the towers", grid(x), "2 2: 2 1 0 0 9 0000 t3+9 t0+4");
        leads("cell: its cell");
        says("rise: its rise, 0 to 9");
        due("build(1, 0)", x.build(1, 0), 3);
        due("build(1, 9)", x.build(1, 9), 4);
        says("Returns how many towers there are then;");
        due("build(1, 9)", x.build(1, 9), 5);
        x.undo();
        says("UNKNOWN if there is no such cell;");
        for (int c : new int[] {LOW, -1, 4, HIGH}) {
            due("build(" + c + ", 3)", x.build(c, 3), UNKNOWN);
            due("build(" + c + ", 10)", x.build(c, 10), UNKNOWN);
        }
        says("BAD if rise is out of range;");
        for (int v : new int[] {LOW, -1, 10, HIGH}) {
            due("build(0, " + v + ")", x.build(0, v), BAD);
        }
        says("FULL if there are five towers.");
        due("build(1, 9) of five", x.build(1, 9), 5);
        due("build(1, 9) of six", x.build(1, 9), FULL);
        due("build(1, 10) of six", x.build(1, 10), BAD);
        due("build(4, 9) of six", x.build(4, 9), UNKNOWN);
        due("about(2)", x.about(2), 5);
        x.raze(2);
        due("build(2, 2) after raze(2)", x.build(2, 2), 5);
        due("build(2, 2) of six", x.build(2, 2), FULL);
    }

    private static void raze() {
        promise(11);
        says("Removes a tower; the numbers of those after it decrease by 1.");
        String[] left = {" t1+2 t2+3 t3+4 t0+5", " t0+1 t2+3 t3+4 t0+5", " t0+1 t1+2 t3+4 t0+5",
            " t0+1 t1+2 t2+3 t0+5", " t0+1 t1+2 t2+3 t3+4"};
        for (int t = 0; t < 5; t++) {
            HillSight x = read("G220000t001t012t023t034t005");
            due("raze(" + t + ")", x.raze(t), 4);
            dueText("the towers", grid(x), "2 2: 4 1 0 0 9 0000" + left[t]);
        }
        leads("tower: the tower");
        says("Returns how many towers are left;");
        HillSight x = read("G220000t001t012t023t034t005");
        for (int rest = 4; rest >= 0; rest--) {
            due("raze(0)", x.raze(0), rest);
        }
        says("UNKNOWN if there is no such tower.");
        due("raze(0) of none", x.raze(0), UNKNOWN);
        x.build(0, 0);
        for (int t : new int[] {LOW, -1, 1, 5, HIGH}) {
            due("raze(" + t + ") of one", x.raze(t), UNKNOWN);
        }
        due("raze(0) of one", x.raze(0), 0);
    }

    private static void set() {
        promise(12);
        says("Sets a setting.");
        HillSight x = new HillSight();
        for (int s = 0; s < 4; s++) {
            x.set(s, 3 + s);
        }
        dueText("the settings", grid(x), "2 2: 0 3 4 5 6 0000");
        says("what: the setting, 0 to 3");
        due("set(0, 0)", x.set(0, 0), 3);
        due("set(3, 1)", x.set(3, 1), 6);
        leads("v: its value");
        says("Returns the previous value;");
        due("set(3, 9)", x.set(3, 9), 1);
        due("set(3, 9)", x.set(3, 9), 9);
        says("BAD if what or v is out of range.");
        for (int v : new int[] {LOW, -1, 10, HIGH}) {
            for (int s = 0; s < 4; s++) {
                due("set(" + s + ", " + v + ")", x.set(s, v), BAD);
            }
        }
        for (int s : new int[] {LOW, -1, 4, 5, HIGH}) {
            due("set(" + s + ", 1)", x.set(s, 1), BAD);
            due("set(" + s + ", 10)", x.set(s, 10), BAD);
        }
        due("set(3, 0)", x.set(3, 0), BAD);
        dueText("the settings", grid(x), "2 2: 0 0 4 5 9 0000");
    }

    private static void undo() {
        promise(13);
        says("Undoes the latest change that is kept.");
        String before = "2 2: 5 1 0 0 9 0000 t0+1 t1+2 t2+3 t3+4 t0+5";
        for (int t = 0; t < 5; t++) {
            HillSight x = read("G220000t001t012t023t034t005");
            x.raze(t);
            x.build(1, 7);
            x.set(3, 1);
            x.raise(3, 9);
            x.undo();
            x.undo();
            due("about(6) after undo() of set()", x.about(6), 9);
            x.undo();
            due("about(2) after undo() of build()", x.about(2), 4);
            x.undo();
            dueText("the grid after undo() of raze(" + t + ")", grid(x), before);
        }
        says("Returns how many changes are kept then;");
        HillSight x = full();
        for (int kept = 13; kept >= 0; kept--) {
            due("undo()", x.undo(), kept);
        }
        dueText("the grid of before", grid(x), "3 2: 3 1 0 0 9 010203 t1+2 t4+0 t0+3");
        x.raise(0, 1);
        x.raise(0, 2);
        due("undo() is no change", x.undo(), 1);
        due("undo() is no change", x.undo(), 0);
        says("LATE if there is none.");
        due("undo()", x.undo(), LATE);
        due("undo() of a new object", new HillSight().undo(), LATE);
        x.raise(0, 1);
        x.keep(0);
        due("again(0)", x.again(0), 3);
        due("undo() after again()", x.undo(), LATE);
    }

    private static void find() {
        promise(24);
        says("Adds an observation.");
        HillSight x = read("G62" + zeros(12) + "s1");
        x.find(0, 1);
        due("which()", x.which(), 1 + 2 + 64 + 128);
        says("cell: the cell that is visible or not was: 1 if it is visible; 0 if not");
        x.find(2, 0);
        due("which()", x.which(), 1 + 64);
        says("Returns how many observations there are then;");
        due("find(2, 0) once more", x.find(2, 0), 3);
        due("find(11, 0)", x.find(11, 0), 4);
        due("find(0, 1)", x.find(0, 1), 5);
        says("UNKNOWN if there is no such cell;");
        for (int c : new int[] {LOW, -1, 12, HIGH}) {
            due("find(" + c + ", 1)", x.find(c, 1), UNKNOWN);
            due("find(" + c + ", 2)", x.find(c, 2), UNKNOWN);
        }
        says("BAD if was is not 0 or 1;");
        for (int was : new int[] {LOW, -1, 2, HIGH}) {
            due("find(0, " + was + ")", x.find(0, was), BAD);
        }
        says("FULL if there are six observations.");
        due("find(6, 1) of six", x.find(6, 1), 6);
        due("find(5, 1) of seven", x.find(5, 1), FULL);
        due("find(5, 2) of seven", x.find(5, 2), BAD);
        due("find(12, 1) of seven", x.find(12, 1), UNKNOWN);
        due("about(10)", x.about(10), 6);
        due("which()", x.which(), 1 + 64);
        x.lose();
        due("find(5, 1) after lose()", x.find(5, 1), 1);
    }

    private static void lose() {
        promise(25);
        says("Removes all observations.");
        HillSight x = full();
        x.lose();
        due("about(10)", x.about(10), 0);
        due("which()", x.which(), 63);
        says("Returns how many there were.");
        due("lose() of none", x.lose(), 0);
        x.find(0, 1);
        due("lose() of one", x.lose(), 1);
        due("lose() of six", full().lose(), 6);
    }

    private static void which() {
        promise(26);
        says("Returns the cells from which, as things are now, all observations are true.");
        HillSight x = read("G62" + zeros(12));
        due("which() of none", x.which(), (1 << 12) - 1);
        x.find(0, 1);
        due("which() at sight 9", x.which(), (1 << 12) - 1);
        x.set(3, 1);
        due("which() at sight 1", x.which(), 1 + 2 + 64 + 128);
        x.undo();
        due("which() at sight 9 again", x.which(), (1 << 12) - 1);
        x.raise(1, 9);
        x.raise(7, 9);
        due("which() behind a wall", x.which(), 1 + 2 + 64 + 128);
        says("Returns the set of these cells.");
        x.find(0, 0);
        due("which() of a contradiction", x.which(), 0);
        HillSight y = read("G66" + zeros(36) + "s1");
        y.find(35, 1);
        due("which() at the last cell", y.which(), 1L << 35 | 1L << 34 | 1L << 29 | 1L << 28);
        y.find(28, 0);
        due("which() of none", y.which(), 0);
    }

    private static void keep() {
        promise(31);
        says("Saves the heights, towers and settings.");
        HillSight x = rich();
        String saved = grid(x);
        x.keep(1);
        due("about(9), the changes stay", x.about(9), 4);
        x.raise(0, 0);
        x.raze(0);
        x.build(0, 0);
        for (int s = 0; s < 4; s++) {
            x.set(s, 9);
        }
        x.again(1);
        dueText("what was saved", grid(x), saved);
        says("What was saved in this slot before is lost.");
        HillSight y = new HillSight();
        y.raise(0, 1);
        y.keep(0);
        y.raise(0, 2);
        y.keep(1);
        y.raise(0, 3);
        y.keep(0);
        y.raise(0, 4);
        y.again(0);
        due("cell(0, 0) of slot 0", y.cell(0, 0), 3);
        y.again(1);
        due("cell(0, 0) of slot 1", y.cell(0, 0), 2);
        says("slot: the slot, 0 or 1");
        due("keep(0)", y.keep(0), 0);
        due("keep(1)", y.keep(1), 0);
        says("Returns the number of towers;");
        due("keep(0) of five", full().keep(0), 5);
        due("keep(1) of two", rich().keep(1), 2);
        says("UNKNOWN if there is no such slot.");
        for (int slot : new int[] {LOW, -1, 2, 32, HIGH}) {
            due("keep(" + slot + ")", y.keep(slot), UNKNOWN);
        }
    }

    private static void again() {
        promise(32);
        says("Restores what was saved.");
        HillSight x = rich();
        x.again(0);
        dueText("what was saved", grid(x), "3 2: 2 2 1 1 4 010203 t1+2 t4+0");
        due("about(10), the observations stay", x.about(10), 2);
        due("about(11), the text stays", x.about(11), 25);
        due("seed(77), the random number stays", x.seed(77), 77);
        says("It stays saved.");
        x.raise(0, 9);
        x.raze(1);
        due("again(0) once more", x.again(0), 2);
        dueText("what was saved", grid(x), "3 2: 2 2 1 1 4 010203 t1+2 t4+0");
        says("No change is kept then.");
        x.raise(0, 9);
        x.again(0);
        due("about(9)", x.about(9), 0);
        due("undo()", x.undo(), LATE);
        says("slot: the slot, 0 or 1");
        x.raze(0);
        x.keep(1);
        due("again(0)", x.again(0), 2);
        due("again(1)", x.again(1), 1);
        says("Returns the number of towers then;");
        due("again(1) of five", full().again(1), 5);
        says("UNKNOWN if there is no such slot;");
        for (int slot : new int[] {LOW, -1, 2, 32, HIGH}) {
            due("again(" + slot + ")", x.again(slot), UNKNOWN);
            due("again(" + slot + ") of a new object", new HillSight().again(slot), UNKNOWN);
        }
        says("LATE if nothing is saved there.");
        due("again(1) with only slot 0", rich().again(1), LATE);
        due("again(0) with only slot 1", full().again(0), LATE);
        due("again(0) of a new object", new HillSight().again(0), LATE);
    }
}
