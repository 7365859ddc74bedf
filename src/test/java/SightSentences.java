/** The promises of what is seen: 14 to 22. */
final class SightSentences extends Sentences {
    private static final String WALL = "G52" + "00300" + "00000";
    /** Only from the last cell, a hill, more than the neighbours are seen with the rise 0. */
    private static final String HIGH_END = "G66" + "0".repeat(35) + "9" + "b4";

    static void test() {
        sees();
        seesExcess();
        seesRise();
        seesErrors();
        view();
        watched();
        joined();
        hollow();
        last();
        lastWays();
        best();
        two();
        twoOrder();
        part();
    }

    private static void sees() {
        promise(14);
        says("Tells about the line from a cell to a cell, with the rise eye.");
        HillSight x = read(WALL + "e5t009");
        due("sees(0, 4, 0) with eye 5", x.sees(0, 4, 0), 0);
        x.set(0, 6);
        due("sees(0, 4, 0) with eye 6", x.sees(0, 4, 0), 1);
        leads("from: the first cell");
        says("to: the second cell; it may equal from");
        for (int c = 0; c < 10; c++) {
            due("sees(" + c + ", " + c + ", 0)", x.sees(c, c, 0), 1);
            due("sees(" + c + ", " + c + ", 1)", x.sees(c, c, 1), 0);
            due("sees(" + c + ", " + c + ", 2)", x.sees(c, c, 2), NONE);
            due("sees(" + c + ", " + c + ", 3)", x.sees(c, c, 3), NONE);
            due("sees(" + c + ", " + c + ", 4)", x.sees(c, c, 4), 0);
        }
        says("what: 0 whether the second cell is visible (1 or 0);");
        x.set(0, 1);
        due("sees(0, 2, 0)", x.sees(0, 2, 0), 1);
        due("sees(0, 3, 0)", x.sees(0, 3, 0), 0);
        x.set(3, 1);
        due("sees(0, 1, 0) at sight 1", x.sees(0, 1, 0), 1);
        due("sees(0, 2, 0) at sight 1", x.sees(0, 2, 0), 0);
        says("1 the distance;");
        due("sees(0, 1, 1)", x.sees(0, 1, 1), 1);
        due("sees(9, 0, 1), whatever sight is", x.sees(9, 0, 1), 4);
        says("2 the lowest step at which a cell blocks the line, whatever sight is;");
        due("sees(0, 4, 2) at sight 1", x.sees(0, 4, 2), 2);
        due("sees(4, 0, 2) at sight 1", x.sees(4, 0, 2), 2);
        x.raise(3, 9);
        due("sees(0, 4, 2) of two steps", x.sees(0, 4, 2), 2);
        due("sees(4, 0, 2) of two steps", x.sees(4, 0, 2), 1);
        due("sees(9, 5, 2) beyond sight, not blocked", x.sees(9, 5, 2), NONE);
    }

    private static void seesExcess() {
        says("3 1000 plus the greatest number by which a cell at some step exceeds the line;");
        HillSight x = read("G52" + "01231" + "00000" + "e0");
        // n 4, p 0, q 1, heights 1, 2, 3 at steps 1, 2, 3.
        due("sees(0, 4, 3), at the last step", x.sees(0, 4, 3), 1000 + 40 * 3 - 10 * 3);
        due("sees(4, 0, 3), at the first step", x.sees(4, 0, 3), 1000 + 40 * 3 - 10 * 3);
        x.raise(2, 9);
        due("sees(0, 4, 3), at the middle step", x.sees(0, 4, 3), 1000 + 40 * 9 - 10 * 2);
        x.set(3, 1);
        due("sees(0, 4, 3) beyond sight", x.sees(0, 4, 3), 1340);
        due("sees(5, 7, 3) at 0", x.sees(5, 7, 3), 1000);
        due("sees(4, 9, 3) without steps", x.sees(4, 9, 3), NONE);
        HillSight least = read("G62" + "900009" + "000000" + "e9m9");
        due("sees(0, 5, 3) at the least", least.sees(0, 5, 3), 100);
        HillSight most = read("G62" + "009000" + "000000" + "e0b9");
        due("sees(0, 5, 3) at the most", most.sees(0, 5, 3), 1720);
    }

    private static void seesRise() {
        says("4 the smallest rise, 0 to 99, with which the second cell would be visible from the first one");
        HillSight x = read(WALL);
        due("sees(0, 2, 4)", x.sees(0, 2, 4), 0);
        due("sees(0, 1, 4)", x.sees(0, 1, 4), 0);
        due("sees(0, 4, 4)", x.sees(0, 4, 4), 6);
        due("sees(0, 3, 4)", x.sees(0, 3, 4), 9);
        for (int eye = 0; eye <= 9; eye++) {
            x.set(0, eye);
            due("sees(0, 4, 4), whatever eye is", x.sees(0, 4, 4), 6);
            due("sees(0, 4, 0) with eye " + eye, x.sees(0, 4, 0), eye >= 6 ? 1 : 0);
            due("sees(0, 3, 0) with eye " + eye, x.sees(0, 3, 0), eye >= 9 ? 1 : 0);
        }
        x.raise(0, 4);
        due("sees(0, 4, 4) from a hill", x.sees(0, 4, 4), 2);
        x.raise(2, 4);
        due("sees(0, 3, 4) from a hill", x.sees(0, 3, 4), 8);
        x.raise(0, 0);
        due("sees(0, 3, 4), above 9", x.sees(0, 3, 4), 12);
        HillSight most = read("G62" + "000090" + "000000" + "b9");
        due("sees(0, 5, 4), the greatest", most.sees(0, 5, 4), 63);
    }

    private static void seesErrors() {
        says("Returns the number, or NONE for 2 if no cell blocks the line,");
        HillSight x = read(WALL + "e9s3");
        due("sees(5, 9, 2)", x.sees(5, 9, 2), NONE);
        due("sees(0, 4, 2) over the wall", x.sees(0, 4, 2), NONE);
        due("sees(0, 1, 2) without steps", x.sees(0, 1, 2), NONE);
        says("for 3 if there are no steps,");
        due("sees(0, 0, 3)", x.sees(0, 0, 3), NONE);
        due("sees(0, 1, 3)", x.sees(0, 1, 3), NONE);
        due("sees(0, 6, 3)", x.sees(0, 6, 3), NONE);
        due("sees(5, 7, 3) with one step", x.sees(5, 7, 3), 1000 - 90);
        says("and for 4 if there is no such rise;");
        due("sees(0, 3, 4) at sight 3", x.sees(0, 3, 4), 9);
        due("sees(0, 4, 4) at sight 3", x.sees(0, 4, 4), NONE);
        due("sees(5, 9, 4) at sight 3", x.sees(5, 9, 4), NONE);
        x.set(3, 4);
        due("sees(0, 4, 4) at sight 4", x.sees(0, 4, 4), 6);
        says("UNKNOWN if there is no such cell;");
        for (int c : new int[] {LOW, -1, 10, HIGH}) {
            for (int what = -1; what <= 5; what++) {
                due("sees(" + c + ", 0, " + what + ")", x.sees(c, 0, what), UNKNOWN);
                due("sees(0, " + c + ", " + what + ")", x.sees(0, c, what), UNKNOWN);
                due("sees(" + c + ", " + c + ", " + what + ")", x.sees(c, c, what), UNKNOWN);
            }
        }
        says("BAD if what is not 0 to 4.");
        for (int what : new int[] {LOW, -1, 5, HIGH}) {
            due("sees(0, 9, " + what + ")", x.sees(0, 9, what), BAD);
            due("sees(0, 0, " + what + ")", x.sees(0, 0, what), BAD);
        }
    }

    private static void view() {
        promise(15);
        leads("cell: the cell");
        says("Returns the view of a cell. cell: the cell Returns the view;");
        HillSight x = read("G66" + zeros(36) + "s1");
        due("view(0)", x.view(0), 1 + 2 + 64 + 128);
        due("view(35)", x.view(35), 1L << 35 | 1L << 34 | 1L << 29 | 1L << 28);
        due("view(5), not on at the row's end", x.view(5), 1 << 4 | 1 << 5 | 1 << 10 | 1 << 11);
        due("view(6), not back to the row before", x.view(6), 1 | 2 | 1 << 6 | 1 << 7 | 1 << 12 | 1 << 13);
        x.set(3, 5);
        due("view(0) at sight 5", x.view(0), (1L << 36) - 1);
        says("UNKNOWN if there is no such cell.");
        for (int c : new int[] {LOW, -1, 36, 64, HIGH}) {
            due("view(" + c + ")", x.view(c), UNKNOWN);
        }
    }

    private static void watched() {
        promise(16);
        leads("tower: the tower");
        says("Returns the view of a tower. tower: the tower Returns the view;");
        HillSight x = read(WALL + "t005t006t009e0");
        due("watched(0) with rise 5", x.watched(0), 1023 - 8 - 16 - 512);
        due("watched(1) with rise 6", x.watched(1), 1023 - 8);
        due("watched(2) with rise 9", x.watched(2), 1023);
        says("UNKNOWN if there is no such tower.");
        for (int t : new int[] {LOW, -1, 3, 5, HIGH}) {
            due("watched(" + t + ")", x.watched(t), UNKNOWN);
        }
        due("watched(0) of none", new HillSight().watched(0), UNKNOWN);
    }

    private static void joined() {
        promise(17);
        says("Combines the views of all towers: beginning with that of tower 0, the result so far is combined with"
            + " that of the next tower, again and again.");
        HillSight x = read("G52" + zeros(10) + "t000t020t040t000t010s1");
        long[] views = {1 | 2 | 32 | 64, 2 | 4 | 8 | 64 | 128 | 256, 8 | 16 | 256 | 512, 1 | 2 | 32 | 64,
            1 | 2 | 4 | 32 | 64 | 128};
        for (int t = 0; t < 5; t++) {
            due("watched(" + t + ")", x.watched(t), views[t]);
        }
        due("joined(0) of five", x.joined(0), 1023);
        due("joined(1) of five", x.joined(1), 0);
        // Cells 0 and 5: towers 0, 3, 4; 1 and 6: 0, 1, 3, 4; 2 and 7: 1, 4; 3 and 8: 1, 2; 4 and 9: 2.
        due("joined(2) of five", x.joined(2), 1 | 32 | 16 | 512);
        due("joined(3) of five", x.joined(3), 0);
        HillSight single = read("G52" + zeros(10) + "t020s1");
        for (int way = 0; way < 4; way++) {
            due("joined(" + way + ") of one", single.joined(way), views[1]);
        }
        says("Without towers it is empty.");
        for (int way = 0; way < 4; way++) {
            due("joined(" + way + ") of none", new HillSight().joined(way), 0);
        }
        says("way: 0 cells of either; 1 cells of both; 2 cells of exactly one of both; 3 cells of the result so far"
            + " that are not in the view of the next tower Returns the set;");
        HillSight two = read("G52" + zeros(10) + "t010t030s1");
        due("joined(0) of two", two.joined(0), 1023);
        due("joined(1) of two", two.joined(1), 4 | 128);
        due("joined(2) of two", two.joined(2), 1023 - 4 - 128);
        due("joined(3) of two", two.joined(3), 1 | 2 | 32 | 64);
        says("BAD if way is not 0 to 3.");
        for (int way : new int[] {LOW, -1, 4, HIGH}) {
            due("joined(" + way + ")", two.joined(way), BAD);
            due("joined(" + way + ") of none", new HillSight().joined(way), BAD);
        }
    }

    private static void hollow() {
        promise(18);
        leads("Returns a region.");
        leads("hollow: the region");
        says("Returns the set of its cells;");
        HillSight x = read("G66" + zeros(36) + "t130t160s1");
        // Both towers see the rows 1 to 3, all columns.
        due("hollow(0)", x.hollow(0), 63);
        due("hollow(1)", x.hollow(1), ((1L << 12) - 1) << 24);
        due("hollow(0) of all cells", read("G66" + zeros(36)).hollow(0), (1L << 36) - 1);
        says("UNKNOWN if there is no such region.");
        for (int r : new int[] {LOW, -1, 2, 35, 36, 64, HIGH}) {
            due("hollow(" + r + ") of two", x.hollow(r), UNKNOWN);
        }
        x.set(3, 9);
        due("hollow(0) of none", x.hollow(0), UNKNOWN);
    }

    private static void last() {
        promise(19);
        says("Goes from a cell in a direction to the edge of the grid, and finds the cell on this way at the greatest"
            + " distance that is visible from the first one with the rise eye.");
        int[] across = {1, 1, 0, -1, -1, -1, 0, 1};
        int[] down = {0, 1, 1, 1, 0, -1, -1, -1};
        for (String size : new String[] {"G22", "G62", "G26", "G55"}) {
            int w = size.charAt(1) - '0';
            int h = size.charAt(2) - '0';
            HillSight x = read(size + zeros(w * h));
            for (int c = 0; c < w * h; c++) {
                for (int d = 0; d < 8; d++) {
                    int column = c % w;
                    int row = c / w;
                    while (column + across[d] >= 0 && column + across[d] < w && row + down[d] >= 0
                        && row + down[d] < h) {
                        column += across[d];
                        row += down[d];
                    }
                    due("last(" + c + ", " + d + ") on " + size, x.last(c, d), row * w + column);
                }
            }
        }
        HillSight y = read(WALL + "t009e5");
        due("last(0, 0) with eye 5", y.last(0, 0), 2);
        y.set(0, 6);
        due("last(0, 0) with eye 6", y.last(0, 0), 4);
        y.set(3, 3);
        due("last(0, 0) at sight 3", y.last(0, 0), 2);
        due("last(5, 0) at sight 3", y.last(5, 0), 8);
    }

    private static void lastWays() {
        says("(Cells between may not be visible.)");
        HillSight x = read("G62" + "003009" + "000000");
        due("sees(0, 3, 0)", x.sees(0, 3, 0), 0);
        due("sees(0, 4, 0)", x.sees(0, 4, 0), 0);
        due("last(0, 0)", x.last(0, 0), 5);
        leads("cell: the cell");
        says("direction: 0 x increases by 1 in each step; 1 x and y increase; 2 y increases; 3 y increases and x"
            + " decreases; 4 x decreases; 5 both decrease; 6 y decreases; 7 y decreases and x increases");
        HillSight middle = read("G55" + zeros(25));
        int[] ends = {14, 24, 22, 20, 10, 0, 2, 4};
        for (int d = 0; d < 8; d++) {
            due("last(12, " + d + ")", middle.last(12, d), ends[d]);
        }
        says("Returns the cell found, or cell itself if none is visible;");
        int[] outward = {4, 7, 6, 5};
        for (int d : outward) {
            due("last(0, " + d + ") outward", middle.last(0, d), 0);
        }
        for (int d = 0; d <= 3; d++) {
            due("last(24, " + d + ") outward", middle.last(24, d), 24);
        }
        due("last(4, 0) not on in the next row", middle.last(4, 0), 4);
        due("last(5, 4) not on in the row before", middle.last(5, 4), 5);
        says("UNKNOWN if there is no such cell;");
        for (int c : new int[] {LOW, -1, 25, HIGH}) {
            due("last(" + c + ", 0)", middle.last(c, 0), UNKNOWN);
            due("last(" + c + ", 8)", middle.last(c, 8), UNKNOWN);
        }
        says("BAD if direction is not 0 to 7.");
        for (int d : new int[] {LOW, -1, 8, 9, HIGH}) {
            due("last(12, " + d + ")", middle.last(12, d), BAD);
        }
    }

    private static void best() {
        promise(20);
        says("Finds the best place for one more tower (also if there are five):");
        HillSight x = read("G55" + zeros(25) + "s1");
        for (int towers = 0; towers <= 5; towers++) {
            due("best(0, 0) of " + towers, x.best(0, 0), towers == 0 ? 6 : 18);
            due("best(0, 1) of " + towers, x.best(0, 1), towers == 0 ? 16 : 8);
            due("about(2)", x.about(2), towers);
            x.build(6, 0);
        }
        says("the cell with which the fewest cells would be hidden, the lowest one of several.");
        due("best(0, 0) of equal ones", new HillSight().best(0, 0), 0);
        HillSight strip = read("G26" + zeros(12) + "s1");
        due("best(0, 0) of a strip", strip.best(0, 0), 2);
        strip.build(2, 0);
        due("best(0, 0), the lowest", strip.best(0, 0), 8);
        strip.build(8, 0);
        due("best(0, 0) with none hidden", strip.best(0, 0), 0);
        due("best(0, 1) with none hidden", strip.best(0, 1), 0);
        HillSight end = read(HIGH_END);
        due("best(0, 0), the highest cell", end.best(0, 0), 35);
        due("best(0, 1), the highest cell", end.best(0, 1), 0);
        // From a place below the grid no hill would be in the way.
        HillSight inside = read("G42" + "0110" + "0000");
        due("best(0, 0), no place outside", inside.best(0, 0), 5);
        due("best(0, 1), no place outside", inside.best(0, 1), 1);
        says("rise: the rise of the tower, 0 to 9");
        // The hill, cell 2, sees all with each rise, cell 1 with 6 or more, cell 0 with 9.
        HillSight wall = read(WALL + "e9");
        int[] places = {2, 2, 2, 2, 2, 2, 1, 1, 1, 0};
        for (int rise = 0; rise <= 9; rise++) {
            due("best(" + rise + ", 0)", wall.best(rise, 0), places[rise]);
            due("best(" + rise + ", 1)", wall.best(rise, 1), 0);
        }
        says("what: 0 for the cell; 1 for how many cells would be hidden Returns the cell or the number;");
        HillSight corner = read("G66" + zeros(36) + "s1");
        due("best(9, 0)", corner.best(9, 0), 7);
        due("best(9, 1)", corner.best(9, 1), 27);
        says("BAD if rise or what is out of range.");
        for (int v : new int[] {LOW, -1, 10, HIGH}) {
            due("best(" + v + ", 0)", corner.best(v, 0), BAD);
            due("best(0, " + v + ")", corner.best(0, v), BAD);
        }
        due("best(0, 2)", corner.best(0, 2), BAD);
    }

    private static void two() {
        promise(21);
        says("Finds the best places for two more towers (also if there would be more than five):");
        HillSight x = read("G62" + zeros(12) + "s1");
        for (int towers = 0; towers <= 5; towers++) {
            due("two(0, 0) of " + towers, x.two(0, 0), towers == 0 ? 1 : 0);
            due("two(0, 1) of " + towers, x.two(0, 1), 4);
            due("two(0, 2) of " + towers, x.two(0, 2), 0);
            due("about(2)", x.about(2), towers);
            x.build(1, 0);
        }
        says("two cells, which may be the same, with which the fewest cells would be hidden;");
        due("two(0, 0), the same", new HillSight().two(0, 0), 0);
        due("two(0, 1), the same", new HillSight().two(0, 1), 0);
        HillSight y = read("G66" + zeros(36) + "s1");
        due("two(0, 2)", y.two(0, 2), 18);
        due("two(0, 0)", y.two(0, 0), 7);
        due("two(0, 1)", y.two(0, 1), 10);
        HillSight end = read(HIGH_END);
        due("two(0, 0) with the highest cell", end.two(0, 0), 0);
        due("two(0, 1) with the highest cell", end.two(0, 1), 35);
        due("two(0, 2) with the highest cell", end.two(0, 2), 0);
    }

    private static void twoOrder() {
        says("of several the one with the lowest first cell, then with the lowest second one, where the first one is"
            + " at most the second one.");
        // A tower sees its row and those next to it, so that rows 1 and 4 see all.
        HillSight strip = read("G26" + zeros(12) + "s1");
        due("two(0, 0)", strip.two(0, 0), 2);
        due("two(0, 1)", strip.two(0, 1), 8);
        strip.build(8, 0);
        due("two(0, 0) with the end seen", strip.two(0, 0), 0);
        due("two(0, 1) with the end seen", strip.two(0, 1), 2);
        strip.build(2, 0);
        due("two(0, 0) with all seen", strip.two(0, 0), 0);
        due("two(0, 1) with all seen", strip.two(0, 1), 0);
        says("rise: the rise of both towers, 0 to 9");
        HillSight wall = read(WALL + "e9");
        int[] seconds = {2, 2, 2, 2, 2, 2, 1, 1, 1, 0};
        for (int rise = 0; rise <= 9; rise++) {
            due("two(" + rise + ", 0)", wall.two(rise, 0), 0);
            due("two(" + rise + ", 1)", wall.two(rise, 1), seconds[rise]);
            due("two(" + rise + ", 2)", wall.two(rise, 2), 0);
        }
        says("what: 0 for the first cell; 1 for the second cell; 2 for how many cells would be hidden Returns the cell"
            + " or the number;");
        HillSight x = read("G55" + zeros(25) + "s1");
        due("two(9, 0)", x.two(9, 0), 6);
        due("two(9, 1)", x.two(9, 1), 18);
        due("two(9, 2)", x.two(9, 2), 8);
        says("BAD if rise or what is out of range.");
        for (int v : new int[] {LOW, -1, 10, HIGH}) {
            due("two(" + v + ", 0)", x.two(v, 0), BAD);
            due("two(0, " + v + ")", x.two(0, v), BAD);
        }
        due("two(0, 3)", x.two(0, 3), BAD);
    }

    private static void part() {
        promise(22);
        leads("upper: true for the numerator; false for the denominator");
        says("Returns the share of the cells that some tower sees among all cells, as a fraction.");
        HillSight x = read("G62" + zeros(12) + "s1");
        partDue(x, 0, 1);
        x.build(0, 0);
        partDue(x, 1, 3);
        x.build(0, 0);
        partDue(x, 1, 3);
        x.build(2, 0);
        partDue(x, 2, 3);
        x.build(3, 0);
        partDue(x, 5, 6);
        x.build(5, 0);
        says("Returns the numerator or denominator.");
        partDue(x, 1, 1);
        HillSight y = read("G55" + zeros(25) + "s1t000");
        partDue(y, 4, 25);
    }

    private static void partDue(HillSight x, int upper, int lower) {
        due("part(true)", x.part(true), upper);
        due("part(false)", x.part(false), lower);
    }
}
