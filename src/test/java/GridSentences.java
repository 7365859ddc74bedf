/** The section THE GRID of the description. */
final class GridSentences extends Sentences {
    static void test() {
        section("Description");
        sizes();
        cells();
        heightsAndTowers();
        settings();
        distance();
        steps();
        nearestCells();
        lineEnds();
        excess();
        above();
        visible();
        views();
        hidden();
        regions();
        regionNumbers();
    }

    private static void sizes() {
        says("THE GRID has w columns and h rows, 2 to 6 each (2 and 2 at first).");
        due("about(0) at first", new HillSight().about(0), 2);
        due("about(1) at first", new HillSight().about(1), 2);
        for (int w = 0; w <= 9; w++) {
            for (int h = 0; h <= 9; h++) {
                HillSight x = new HillSight();
                put(x, "G" + w + h + zeros(w * h));
                boolean fits = w >= 2 && w <= 6 && h >= 2 && h <= 6;
                due("map() of " + w + " by " + h, x.map(), fits ? w * h : LATE);
                due("about(0) of " + w + " by " + h, x.about(0), fits ? w : 2);
                due("about(1) of " + w + " by " + h, x.about(1), fits ? h : 2);
            }
        }
    }

    private static void cells() {
        says("Cells are numbered row by row; cell c has the column x = c modulo w and the row y = c / w.");
        HillSight wide = read("G62" + zeros(12));
        due("sees(0, 5, 1) along the row", wide.sees(0, 5, 1), 5);
        due("sees(5, 6, 1) to the next row's begin", wide.sees(5, 6, 1), 5);
        due("sees(0, 6, 1) to the cell below", wide.sees(0, 6, 1), 1);
        due("sees(5, 11, 1) to the cell below", wide.sees(5, 11, 1), 1);
        HillSight tall = read("G26" + zeros(12));
        due("sees(0, 1, 1)", tall.sees(0, 1, 1), 1);
        due("sees(1, 2, 1) to the next row's begin", tall.sees(1, 2, 1), 1);
        due("sees(0, 10, 1) down the column", tall.sees(0, 10, 1), 5);
        due("sees(1, 10, 1) to the last row", tall.sees(1, 10, 1), 5);
    }

    private static void heightsAndTowers() {
        says("A cell has a height, 0 to 9 (0 at first).");
        HillSight x = new HillSight();
        for (int c = 0; c < 4; c++) {
            due("cell(" + c + ", 0)", x.cell(c, 0), 0);
        }
        due("raise(3, 9)", x.raise(3, 9), 0);
        due("raise(3, 10)", x.raise(3, 10), BAD);
        due("raise(3, -1)", x.raise(3, -1), BAD);
        due("raise(3, 0)", x.raise(3, 0), 9);
        says("There are up to five towers (none at first), each on a cell, with a rise from 0 to 9; several may be on"
            + " one cell, and they are different towers.");
        due("about(2) at first", x.about(2), 0);
        for (int t = 1; t <= 5; t++) {
            due("build(2, 9), tower " + t, x.build(2, 9), t);
        }
        due("build(2, 9), tower 6", x.build(2, 9), FULL);
        due("cell(2, 1)", x.cell(2, 1), 31);
        due("cell(0, 2)", x.cell(0, 2), 5);
        due("raze(0)", x.raze(0), 4);
        due("cell(2, 1)", x.cell(2, 1), 15);
        due("build(2, 10)", x.build(2, 10), BAD);
        due("build(2, -1)", x.build(2, -1), BAD);
        due("build(2, 0)", x.build(2, 0), 5);
        due("tower(4, 1)", x.tower(4, 1), 0);
        due("tower(3, 1)", x.tower(3, 1), 9);
    }

    private static void settings() {
        says("There are four settings: 0 eye, 0 to 9 (1 at first); 1 mark, 0 to 9 (0); 2 bend, 0 to 9 (0); 3 sight,"
            + " 1 to 9 (9).");
        int[] first = {1, 0, 0, 9};
        int[] least = {0, 0, 0, 1};
        HillSight x = new HillSight();
        for (int s = 0; s < 4; s++) {
            due("about(" + (3 + s) + ") at first", x.about(3 + s), first[s]);
            due("set(" + s + ", the least)", x.set(s, least[s]), first[s]);
            due("set(" + s + ", less)", x.set(s, least[s] - 1), BAD);
            due("about(" + (3 + s) + ")", x.about(3 + s), least[s]);
            due("set(" + s + ", 9)", x.set(s, 9), least[s]);
            due("set(" + s + ", 10)", x.set(s, 10), BAD);
            due("about(" + (3 + s) + ")", x.about(3 + s), 9);
        }
        due("set(4, 1)", x.set(4, 1), BAD);
        due("set(-1, 1)", x.set(-1, 1), BAD);
    }

    private static void distance() {
        says("The distance n of two cells A and B is the greater one of the absolute differences of their columns and"
            + " of their rows.");
        HillSight x = read("G66" + zeros(36));
        int[][] ends = {{0, 0, 0}, {35, 35, 0}, {0, 1, 1}, {0, 6, 1}, {0, 7, 1}, {1, 6, 1}, {0, 5, 5}, {0, 30, 5},
            {0, 35, 5}, {5, 30, 5}, {0, 13, 2}, {0, 8, 2}, {3, 12, 3}, {2, 24, 4}, {6, 4, 4}};
        for (int[] e : ends) {
            due("sees(" + e[0] + ", " + e[1] + ", 1)", x.sees(e[0], e[1], 1), e[2]);
            due("sees(" + e[1] + ", " + e[0] + ", 1)", x.sees(e[1], e[0], 1), e[2]);
        }
    }

    /** The cells that would block the line if they were a wall: those at some step. */
    private static long walls(HillSight x, int from, int to) {
        long set = 0;
        for (int c = 0; c < x.about(0) * x.about(1); c++) {
            int was = x.raise(c, 9);
            if (x.sees(from, to, 2) != NONE) {
                set |= 1L << c;
            }
            x.raise(c, was);
        }
        return set;
    }

    private static void wallsDue(String size, int from, int to, int... cells) {
        long want = 0;
        for (int c : cells) {
            want |= 1L << c;
        }
        int count = (size.charAt(1) - '0') * (size.charAt(2) - '0');
        due("the steps from " + from + " to " + to + " on " + size, walls(read(size + zeros(count)), from, to), want);
    }

    private static void steps() {
        says("For each step k = 1 to n - 1 between them, the point of the step has the column x(A) + k * (x(B) - x(A))"
            + " / n and the row y(A) + k * (y(B) - y(A)) / n, as fractions.");
        wallsDue("G66", 14, 14);
        wallsDue("G66", 14, 15);
        wallsDue("G66", 14, 21);
        wallsDue("G66", 0, 2, 1);
        wallsDue("G66", 0, 5, 1, 2, 3, 4);
        wallsDue("G66", 5, 0, 1, 2, 3, 4);
        wallsDue("G66", 0, 30, 6, 12, 18, 24);
        wallsDue("G66", 35, 5, 11, 17, 23, 29);
        wallsDue("G66", 0, 35, 7, 14, 21, 28);
        wallsDue("G66", 30, 5, 10, 15, 20, 25);
        wallsDue("G62", 0, 11, 1, 2, 9, 10);
        wallsDue("G62", 11, 0, 1, 2, 9, 10);
        wallsDue("G62", 5, 6, 3, 4, 7, 8);
        wallsDue("G26", 0, 11, 2, 4, 7, 9);
        HillSight x = read("G62" + "009000" + "000000");
        due("sees(0, 5, 2)", x.sees(0, 5, 2), 2);
        due("sees(5, 0, 2)", x.sees(5, 0, 2), 3);
        due("sees(1, 5, 2) at the first step", x.sees(1, 5, 2), 1);
        due("sees(5, 1, 2) at the last step", x.sees(5, 1, 2), 3);
        due("sees(2, 5, 2) from the wall", x.sees(2, 5, 2), NONE);
        due("sees(5, 2, 2) to the wall", x.sees(5, 2, 2), NONE);
    }

    private static void nearestCells() {
        says("The cell nearest to this point is at the step; if the point is exactly in the middle between two cells,"
            + " both are.");
        wallsDue("G66", 0, 9, 1, 8);
        wallsDue("G66", 0, 10, 1, 2, 8, 9);
        wallsDue("G66", 0, 16, 1, 7, 8, 9, 15);
        wallsDue("G66", 0, 22, 7, 8, 14, 15);
        wallsDue("G66", 0, 17, 1, 8, 9, 16);
        wallsDue("G66", 0, 23, 7, 8, 15, 16);
        wallsDue("G66", 0, 29, 7, 14, 15, 22);
        wallsDue("G66", 0, 25, 6, 12, 13, 19);
        wallsDue("G66", 0, 31, 6, 12, 19, 25);
        wallsDue("G66", 5, 7, 4, 3, 9, 8);
        wallsDue("G66", 35, 25, 34, 27, 33, 26);
        wallsDue("G32", 0, 5, 1, 4);
        wallsDue("G32", 5, 0, 1, 4);
        wallsDue("G32", 3, 2, 1, 4);
        wallsDue("G23", 0, 5, 2, 3);
        wallsDue("G23", 1, 4, 2, 3);
        // The higher one of both tells by how much the line is exceeded.
        due("sees(0, 5, 3), the lower row higher", read("G32020050").sees(0, 5, 3), 1000 + 20 * 5 - 10);
        due("sees(0, 5, 3), the upper row higher", read("G32050020").sees(0, 5, 3), 1000 + 20 * 5 - 10);
    }

    private static void lineEnds() {
        says("Looking from A with a rise r to B, let p be the height of A plus r, and q the height of B plus mark.");
        HillSight x = read("G42" + "2005" + "0000" + "e3m4");
        due("sees(0, 3, 3)", x.sees(0, 3, 3), 1000 - 10 * (5 * 2 + 9 * 1));
        due("sees(3, 0, 3)", x.sees(3, 0, 3), 1000 - 10 * (8 * 1 + 6 * 2));
        HillSight least = read("G62" + "000000" + "000000" + "e0");
        due("sees(0, 5, 3) with all at 0", least.sees(0, 5, 3), 1000);
        HillSight greatest = read("G62" + "900009" + "000000" + "e9m9");
        due("sees(0, 5, 3) with all at 9", greatest.sees(0, 5, 3), 1000 - 10 * 18 * 5);
    }

    private static void excess() {
        says("A cell of height H at step k exceeds the line by 10 * n * H + n * bend * k * (n - k) - 10 * (p * (n - k)"
            + " + q * k).");
        HillSight x = read("G62" + "300900" + "000000" + "e2m1b7");
        // From cell 0 to cell 5: n 5, p 5, q 1, at steps 1 to 4 the heights 0, 0, 9, 0.
        due("sees(0, 5, 3)", x.sees(0, 5, 3), 1000 + 450 + 5 * 7 * 3 * 2 - 10 * (5 * 2 + 1 * 3));
        due("sees(5, 0, 3)", x.sees(5, 0, 3), 1000 + 450 + 5 * 7 * 2 * 3 - 10 * (2 * 3 + 4 * 2));
        HillSight most = read("G62" + "009000" + "000000" + "e0b9");
        due("sees(0, 5, 3), the greatest", most.sees(0, 5, 3), 1000 + 450 + 270);
        HillSight flat = read("G62" + zeros(12) + "e0b9");
        int[] middle = {0, 0, 2 * 9, 3 * 9 * 2, 4 * 9 * 4, 5 * 9 * 6};
        for (int n = 2; n <= 5; n++) {
            due("sees(0, " + n + ", 3)", flat.sees(0, n, 3), 1000 + middle[n]);
        }
    }

    private static void above() {
        says("It blocks the line if this is above 0.");
        HillSight x = read("G32" + zeros(6) + "b5");
        due("sees(0, 2, 3) at the line", x.sees(0, 2, 3), 1000);
        due("sees(0, 2, 2) at the line", x.sees(0, 2, 2), NONE);
        due("sees(0, 2, 0) at the line", x.sees(0, 2, 0), 1);
        x.set(2, 6);
        due("sees(0, 2, 3) above", x.sees(0, 2, 3), 1002);
        due("sees(0, 2, 2) above", x.sees(0, 2, 2), 1);
        due("sees(0, 2, 0) above", x.sees(0, 2, 0), 0);
        x.set(2, 4);
        due("sees(0, 2, 3) below", x.sees(0, 2, 3), 998);
        due("sees(0, 2, 2) below", x.sees(0, 2, 2), NONE);
        due("sees(0, 2, 0) below", x.sees(0, 2, 0), 1);
    }

    private static void visible() {
        says("B is visible from A with a rise r if B is A, or if their distance is at most sight and no cell at any"
            + " step blocks the line.");
        HillSight x = read("G66" + zeros(36) + "s1");
        for (int sight = 1; sight <= 9; sight++) {
            x.set(3, sight);
            for (int n = 0; n <= 5; n++) {
                due("sees(0, " + n + ", 0) at sight " + sight, x.sees(0, n, 0), n <= sight ? 1 : 0);
                due("sees(" + 7 * n + ", 0, 0) at sight " + sight, x.sees(7 * n, 0, 0), n <= sight ? 1 : 0);
            }
        }
        for (int step = 1; step <= 4; step++) {
            x.raise(step, 9);
            due("sees(0, 5, 0) with a wall at step " + step, x.sees(0, 5, 0), 0);
            x.raise(step, 0);
        }
        due("sees(0, 5, 0) without a wall", x.sees(0, 5, 0), 1);
        HillSight well = read("G33" + "999909999" + "e0b9s1");
        due("view(4) of a well", well.view(4), 511);
        due("sees(4, 4, 0) of a well", well.sees(4, 4, 0), 1);
        due("view(0) beside a well", well.view(0), 1 + 2 + 8 + 16);
    }

    private static void views() {
        says("The view of a cell is the set of the cells that are visible from it with the rise eye.");
        // Behind the wall, cell 3 needs the rise 9, cells 4 and 9 need 6.
        HillSight x = read("G52" + "00300" + "00000" + "t000t009e0");
        long before = 1 + 2 + 4 + 32 + 64 + 128 + 256;
        due("view(0) with eye 0", x.view(0), before);
        x.set(0, 5);
        due("view(0) with eye 5", x.view(0), before);
        x.set(0, 6);
        due("view(0) with eye 6", x.view(0), before | 16 | 512);
        x.set(0, 9);
        due("view(0) with eye 9", x.view(0), 1023);
        says("The view of a tower is the set of those visible from its cell with its rise; eye does not matter for"
            + " it.");
        for (int eye = 0; eye <= 9; eye++) {
            x.set(0, eye);
            due("watched(0) with eye " + eye, x.watched(0), before);
            due("watched(1) with eye " + eye, x.watched(1), 1023);
        }
        says("A tower sees the cells of its view.");
        due("cell(3, 2)", x.cell(3, 2), 1);
        due("cell(2, 2)", x.cell(2, 2), 2);
        due("cell(0, 2), its own", x.cell(0, 2), 2);
    }

    private static void hidden() {
        says("A cell that no tower sees is hidden.");
        HillSight x = read("G52" + "00300" + "00000");
        due("about(7) without towers", x.about(7), 10);
        x.build(0, 0);
        due("about(7) with one", x.about(7), 3);
        due("cell(3, 4) that none sees", x.cell(3, 4), 0);
        due("cell(0, 4) of the tower itself", x.cell(0, 4), NONE);
        x.build(0, 9);
        due("about(7) with all seen", x.about(7), 0);
        due("cell(3, 4) that one sees", x.cell(3, 4), NONE);
    }

    private static void regions() {
        says("A region is a set of hidden cells that are connected by steps to neighbours in the same row or column;"
            + " it is as large as possible.");
        HillSight rowEnds = read("G52" + zeros(10) + "t020t070s1");
        due("hollow(0), not on at the row's end", rowEnds.hollow(0), 1 + 32);
        due("hollow(1), not on at the row's end", rowEnds.hollow(1), 16 + 512);
        HillSight columnEnds = read("G25" + zeros(10) + "t040s1");
        due("hollow(0), not on at the column's end", columnEnds.hollow(0), 1 + 2);
        due("hollow(1), not on at the column's end", columnEnds.hollow(1), 256 + 512);
        HillSight corners = read("G44" + zeros(16) + "t000t150s1");
        due("hollow(0), not over a corner", corners.hollow(0), 4 + 8 + 64 + 128);
        due("hollow(1), not over a corner", corners.hollow(1), 256 + 512 + 4096 + 8192);
        // The first row, then down the last column, then all of the lowest two rows.
        HillSight bow = read("G66" + zeros(36) + "t130t150s1");
        due("hollow(0), around two bends", bow.hollow(0),
            63L | 1L << 11 | 1L << 17 | 1L << 23 | ((1L << 12) - 1) << 24);
        due("about(8), around two bends", bow.about(8), 1);
        HillSight hook = read("G43" + zeros(12) + "t080t010s1");
        due("hollow(0), down and one step back", hook.hollow(0), 1 << 3 | 1 << 7 | 1 << 10 | 1 << 11);
        due("about(8), down and one step back", hook.about(8), 1);
        HillSight valley = read("G55" + zeros(25) + "t020s1");
        due("hollow(0), down and up again", valley.hollow(0), (1 << 25) - 1 - 33 * (2 | 4 | 8));
        due("about(8), down and up again", valley.about(8), 1);
        HillSight one = read("G33" + zeros(9) + "t000t020t060s1");
        due("hollow(0) of one cell", one.hollow(0), 256);
        due("about(8) of one cell", one.about(8), 1);
        due("hollow(0) of all cells", read("G66" + zeros(36)).hollow(0), (1L << 36) - 1);
        due("about(8) of all cells", read("G66" + zeros(36)).about(8), 1);
    }

    private static void regionNumbers() {
        says("Regions are numbered by their lowest cells.");
        // The first region has the lowest cell and also the highest one.
        HillSight x = read("G54" + zeros(20) + "t010t120t020s1");
        due("hollow(0)", x.hollow(0), 1 << 4 | 1 << 9 | 1 << 14 | 1 << 19);
        due("hollow(1)", x.hollow(1), 1 << 10 | 1 << 15);
        due("hollow(2)", x.hollow(2), UNKNOWN);
        due("cell(19, 4)", x.cell(19, 4), 0);
        due("cell(10, 4)", x.cell(10, 4), 1);
        // From the corner no low cell is seen but the two beside it, and no two low cells are neighbours.
        HillSight board = read(BOARD);
        int[] low = {3, 5, 8, 10, 13, 15, 17, 18, 20, 22, 25, 27, 29, 30, 32, 34};
        due("about(8) of the board", board.about(8), 16);
        for (int r = 0; r < 16; r++) {
            due("hollow(" + r + ") of the board", board.hollow(r), 1L << low[r]);
            due("cell(" + low[r] + ", 4) of the board", board.cell(low[r], 4), r);
        }
        due("hollow(16) of the board", board.hollow(16), UNKNOWN);
        due("cell(1, 4) of the board", board.cell(1, 4), NONE);
        due("cell(35, 4) of the board", board.cell(35, 4), NONE);
    }
}
