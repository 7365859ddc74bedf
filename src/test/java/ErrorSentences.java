/** The section ERRORS of the description. */
final class ErrorSentences extends Sentences {
    static void test() {
        section("Description");
        errorsAreNegative();
        noSuchCell();
        noSuchTowerRegionOrSlot();
        outOfRange();
        outOfRangeOfViews();
        lateAndFull();
        firstErrorFirst();
        errorsChangeNothing();
        errorsOfFullChangeNothing();
        noneIsNoError();
        numberedFromZero();
        setsOfBits();
        lowestTerms();
    }

    private static void errorsAreNegative() {
        says("ERRORS. A method reports an error by a negative return value.");
        due("UNKNOWN", HillSight.UNKNOWN, -1);
        due("BAD", HillSight.BAD, -2);
        due("LATE", HillSight.LATE, -3);
        due("FULL", HillSight.FULL, -4);
        due("NONE", HillSight.NONE, -9);
        // The answers of type long are negative as a whole, not only in their lowest 32 bits.
        due("view(4)", new HillSight().view(4), -1L);
        due("watched(0)", new HillSight().watched(0), -1L);
        due("joined(4)", new HillSight().joined(4), -2L);
        due("hollow(1)", new HillSight().hollow(1), -1L);
    }

    private static void noSuchCell() {
        says("UNKNOWN (-1): there is no such cell, tower, region or slot.");
        for (HillSight x : new HillSight[] {new HillSight(), read("G62" + zeros(12)), read("G66" + zeros(36))}) {
            int cells = x.about(0) * x.about(1);
            for (int c : new int[] {LOW, -64, -1, cells, cells + 1, 64, 64 + cells - 1, HIGH}) {
                due("cell(" + c + ", 0)", x.cell(c, 0), UNKNOWN);
                due("raise(" + c + ", 1)", x.raise(c, 1), UNKNOWN);
                due("build(" + c + ", 1)", x.build(c, 1), UNKNOWN);
                due("sees(" + c + ", 0, 0)", x.sees(c, 0, 0), UNKNOWN);
                due("sees(0, " + c + ", 0)", x.sees(0, c, 0), UNKNOWN);
                due("sees(" + c + ", " + c + ", 0)", x.sees(c, c, 0), UNKNOWN);
                due("view(" + c + ")", x.view(c), UNKNOWN);
                due("last(" + c + ", 0)", x.last(c, 0), UNKNOWN);
                due("find(" + c + ", 1)", x.find(c, 1), UNKNOWN);
                due("chance(" + c + ", 5, true)", x.chance(c, 5, true), UNKNOWN);
                due("chance(" + c + ", 5, false)", x.chance(c, 5, false), UNKNOWN);
            }
            int end = cells - 1;
            due("cell(" + end + ", 0)", x.cell(end, 0), 0);
            due("raise(" + end + ", 0)", x.raise(end, 0), 0);
            due("sees(0, " + end + ", 0)", x.sees(0, end, 0), 1);
            due("sees(" + end + ", 0, 0)", x.sees(end, 0, 0), 1);
            due("view(" + end + ")", x.view(end), (1L << cells) - 1);
            due("last(" + end + ", 0)", x.last(end, 0), end);
            due("find(" + end + ", 1)", x.find(end, 1), 1);
            due("chance(" + end + ", 5, true)", x.chance(end, 5, true), 0);
            due("build(" + end + ", 0)", x.build(end, 0), 1);
        }
    }

    private static void noSuchTowerRegionOrSlot() {
        HillSight x = new HillSight();
        for (int towers = 0; towers <= 5; towers++) {
            for (int t : new int[] {LOW, -1, towers, towers + 1, 5, 6, 32, HIGH}) {
                due("tower(" + t + ", 0) of " + towers, x.tower(t, 0), UNKNOWN);
                due("raze(" + t + ") of " + towers, x.raze(t), UNKNOWN);
                due("watched(" + t + ") of " + towers, x.watched(t), UNKNOWN);
                due("share(" + t + ", true) of " + towers, x.share(t, true), UNKNOWN);
                due("share(" + t + ", false) of " + towers, x.share(t, false), UNKNOWN);
            }
            x.build(0, 0);
        }
        due("tower(4, 0) of 5", x.tower(4, 0), 0);
        due("watched(4) of 5", x.watched(4), 15);
        due("raze(4) of 5", x.raze(4), 4);
        HillSight y = new HillSight();
        for (int r : new int[] {LOW, -1, 1, 2, 35, 36, 64, HIGH}) {
            due("hollow(" + r + ") of one", y.hollow(r), UNKNOWN);
            due("keep(" + (r == 1 ? -2 : r) + ")", y.keep(r == 1 ? -2 : r), UNKNOWN);
            due("again(" + (r == 1 ? -2 : r) + ")", y.again(r == 1 ? -2 : r), UNKNOWN);
        }
        due("hollow(0) of one", y.hollow(0), 15);
        y.build(0, 0);
        due("hollow(0) of none", y.hollow(0), UNKNOWN);
    }

    private static void outOfRange() {
        says("BAD (-2): another argument is out of range.");
        HillSight x = new HillSight();
        x.build(0, 0);
        for (int v : new int[] {LOW, -10, -1, 10, 11, 16, 256, HIGH}) {
            due("raise(0, " + v + ")", x.raise(0, v), BAD);
            due("build(0, " + v + ")", x.build(0, v), BAD);
            due("set(" + v + ", 1)", x.set(v, 1), BAD);
            for (int what = 0; what < 4; what++) {
                due("set(" + what + ", " + v + ")", x.set(what, v), BAD);
            }
            due("best(" + v + ", 0)", x.best(v, 0), BAD);
            due("best(0, " + v + ")", x.best(0, v), BAD);
            due("two(" + v + ", 0)", x.two(v, 0), BAD);
            due("two(0, " + v + ")", x.two(0, v), BAD);
            due("find(0, " + v + ")", x.find(0, v), BAD);
            due("judge(" + v + ", 40000)", x.judge(v, 40000), BAD);
        }
        for (int v : new int[] {LOW, -256, -1, 256, 256 + 'G', 65536 + 'G', HIGH}) {
            due("write(" + v + ")", x.write(v), BAD);
        }
        for (int v : new int[] {LOW, -1, 11, 12, HIGH}) {
            due("chance(0, " + v + ", true)", x.chance(0, v, true), BAD);
            due("chance(0, " + v + ", false)", x.chance(0, v, false), BAD);
        }
        for (int v : new int[] {LOW, -1, 0, 21, 22, HIGH}) {
            due("drawn(" + v + ")", x.drawn(v), BAD);
        }
    }

    private static void outOfRangeOfViews() {
        HillSight x = new HillSight();
        x.build(0, 0);
        for (int v : new int[] {LOW, -1, 12, 13, HIGH}) {
            due("about(" + v + ")", x.about(v), BAD);
            due("cell(0, " + v + ")", x.cell(0, v), BAD);
            due("tower(0, " + v + ")", x.tower(0, v), BAD);
            due("sees(0, 3, " + v + ")", x.sees(0, 3, v), BAD);
            due("joined(" + v + ")", x.joined(v), BAD);
            due("last(0, " + v + ")", x.last(0, v), BAD);
        }
        due("cell(0, 5)", x.cell(0, 5), BAD);
        due("tower(0, 4)", x.tower(0, 4), BAD);
        due("sees(0, 3, 5)", x.sees(0, 3, 5), BAD);
        due("joined(4)", x.joined(4), BAD);
        due("last(0, 8)", x.last(0, 8), BAD);
        due("best(0, 2)", x.best(0, 2), BAD);
        due("two(0, 3)", x.two(0, 3), BAD);
        due("find(0, 2)", x.find(0, 2), BAD);
        due("set(4, 1)", x.set(4, 1), BAD);
        due("set(3, 0)", x.set(3, 0), BAD);
        due("judge(0, 40000)", x.judge(0, 40000), BAD);
        due("judge(4, 40000)", x.judge(4, 40000), BAD);
    }

    private static void lateAndFull() {
        says("LATE (-3): the call is not possible, as the method says.");
        HillSight x = new HillSight();
        due("map()", x.map(), LATE);
        due("undo()", x.undo(), LATE);
        due("again(0)", x.again(0), LATE);
        due("again(1)", x.again(1), LATE);
        says("FULL (-4): a limit is reached.");
        HillSight y = full();
        due("write(48)", y.write(48), FULL);
        due("build(0, 0)", y.build(0, 0), FULL);
        due("find(0, 0)", y.find(0, 0), FULL);
        due("raise(0, 0) with 14 changes", y.raise(0, 0), 6);
    }

    private static void firstErrorFirst() {
        says("Each method lists its errors in the order in which it checks them, and returns the first that applies.");
        HillSight x = full();
        due("write(256) of 91", x.write(256), BAD);
        due("write(-1) of 91", x.write(-1), BAD);
        due("cell(6, 5)", x.cell(6, 5), UNKNOWN);
        due("tower(5, 4)", x.tower(5, 4), UNKNOWN);
        due("raise(6, 10)", x.raise(6, 10), UNKNOWN);
        due("build(6, 10) of six", x.build(6, 10), UNKNOWN);
        due("build(6, 0) of six", x.build(6, 0), UNKNOWN);
        due("build(0, 10) of six", x.build(0, 10), BAD);
        due("build(0, 9) of six", x.build(0, 9), FULL);
        due("sees(6, 0, 5)", x.sees(6, 0, 5), UNKNOWN);
        due("sees(0, 6, 5)", x.sees(0, 6, 5), UNKNOWN);
        due("last(6, 8)", x.last(6, 8), UNKNOWN);
        due("find(6, 2) of seven", x.find(6, 2), UNKNOWN);
        due("find(6, 1) of seven", x.find(6, 1), UNKNOWN);
        due("find(0, 2) of seven", x.find(0, 2), BAD);
        due("find(0, 1) of seven", x.find(0, 1), FULL);
        due("chance(6, 11, true)", x.chance(6, 11, true), UNKNOWN);
        due("again(2)", new HillSight().again(2), UNKNOWN);
        due("again(0)", new HillSight().again(0), LATE);
    }

    private static void errorsChangeNothing() {
        says("A call that returns an error changes nothing.");
        HillSight x = rich();
        int errors = 0;
        errors += negative(x.write(256)) + negative(x.write(-1)) + negative(x.about(12));
        errors += negative(x.cell(6, 0)) + negative(x.cell(0, 5)) + negative(x.tower(2, 0)) + negative(x.tower(0, 4));
        errors += negative(x.raise(6, 1)) + negative(x.raise(-1, 1)) + negative(x.raise(0, 10));
        errors += negative(x.raise(0, -1)) + negative(x.build(6, 1)) + negative(x.build(0, 10));
        errors += negative(x.raze(2)) + negative(x.raze(-1)) + negative(x.set(4, 1)) + negative(x.set(0, 10));
        errors += negative(x.set(3, 0)) + negative(x.sees(6, 0, 0)) + negative(x.sees(0, 0, 5)) + negative(x.view(6));
        errors += negative(x.watched(2)) + negative(x.joined(4)) + negative(x.hollow(9)) + negative(x.last(6, 0));
        errors += negative(x.last(0, 8)) + negative(x.best(10, 0)) + negative(x.two(10, 0)) + negative(x.judge(0, 0));
        errors += negative(x.judge(1, 100000)) + negative(x.judge(1, -1)) + negative(x.find(6, 1));
        errors += negative(x.find(0, 2)) + negative(x.share(2, true)) + negative(x.chance(6, 0, true));
        errors += negative(x.chance(0, 11, true)) + negative(x.drawn(0)) + negative(x.drawn(21));
        errors += negative(x.keep(2)) + negative(x.again(2)) + negative(x.again(1));
        due("errors", errors, 41);
        dueText("an object after errors", wholeOf(x), wholeOf(rich()));
        HillSight y = rich();
        y.write('?');
        HillSight z = rich();
        z.write('?');
        due("map() of a wrong text", y.map(), LATE);
        dueText("an object after map() of a wrong text", wholeOf(y), wholeOf(z));
        HillSight e = new HillSight();
        due("undo() of none", e.undo(), LATE);
        dueText("an object after undo() of none", wholeOf(e), wholeOf(new HillSight()));
    }

    private static int negative(long answer) {
        return answer < 0 && answer != NONE ? 1 : 0;
    }

    private static void errorsOfFullChangeNothing() {
        HillSight x = full();
        due("write(48) of 91", x.write(48), FULL);
        due("build(0, 0) of six", x.build(0, 0), FULL);
        due("find(5, 0) of seven", x.find(5, 0), FULL);
        due("raise(0, 10) with 14 changes", x.raise(0, 10), BAD);
        due("set(3, 0) with 14 changes", x.set(3, 0), BAD);
        due("raze(5) with 14 changes", x.raze(5), UNKNOWN);
        dueText("a full object after errors", wholeOf(x), wholeOf(full()));
    }

    private static void noneIsNoError() {
        says("NONE (-9) is no error; it stands for \"no such thing\" and is returned only if no error applies.");
        HillSight x = read("G220000t000");
        due("fault()", x.fault(), NONE);
        due("cell(0, 4)", x.cell(0, 4), NONE);
        due("cell(4, 4)", x.cell(4, 4), UNKNOWN);
        due("cell(0, 5)", x.cell(0, 5), BAD);
        for (int what = 2; what <= 3; what++) {
            due("sees(0, 3, " + what + ")", x.sees(0, 3, what), NONE);
            due("sees(0, 4, " + what + ")", x.sees(0, 4, what), UNKNOWN);
            due("sees(4, 4, " + what + ")", x.sees(4, 4, what), UNKNOWN);
        }
        due("sees(0, 3, 5)", x.sees(0, 3, 5), BAD);
        due("judge(1, 40000)", x.judge(1, 40000), NONE);
        due("judge(4, 40000)", x.judge(4, 40000), BAD);
    }

    private static void numberedFromZero() {
        says("Everything is numbered from 0.");
        HillSight x = read("G521234567890t010t090");
        due("cell(0, 0)", x.cell(0, 0), 1);
        due("cell(9, 0)", x.cell(9, 0), 0);
        due("tower(0, 0)", x.tower(0, 0), 1);
        due("tower(1, 0)", x.tower(1, 0), 9);
        due("hollow(0)", new HillSight().hollow(0), 15);
        due("cell(3, 4)", new HillSight().cell(3, 4), 0);
        due("keep(0)", x.keep(0), 2);
        due("judge(1, 0)", x.judge(1, 0), 0);
        due("fault()", new HillSight().fault(), 0);
    }

    private static void setsOfBits() {
        says("Sets are sets of bits: bit k stands for number k.");
        HillSight x = read("G66" + zeros(36) + "t350t000t350t310t350s1");
        due("view(35)", x.view(35), 1L << 35 | 1L << 34 | 1L << 29 | 1L << 28);
        due("view(31)", x.view(31), 1L << 32 | 1L << 31 | 1L << 30 | 1L << 26 | 1L << 25 | 1L << 24);
        due("watched(3)", x.watched(3), x.view(31));
        due("joined(1)", x.joined(1), 0);
        due("cell(0, 1)", x.cell(0, 1), 2);
        due("cell(31, 1)", x.cell(31, 1), 8);
        due("cell(35, 1)", x.cell(35, 1), 1 + 4 + 16);
        x.set(3, 9);
        due("view(0)", x.view(0), 0xFFFFFFFFFL);
        due("joined(0)", x.joined(0), 0xFFFFFFFFFL);
        due("which()", x.which(), 0xFFFFFFFFFL);
        due("hollow(0)", read("G66" + zeros(36)).hollow(0), 0xFFFFFFFFFL);
    }

    private static void lowestTerms() {
        says("Fractions are in lowest terms with a positive denominator (0 is 0/1); upper = true asks for the"
            + " numerator, upper = false for the denominator.");
        HillSight x = read("G66" + zeros(36) + "s1");
        due("part(true) of 0", x.part(true), 0);
        due("part(false) of 0", x.part(false), 1);
        due("chance(0, 0, true) of 0", x.chance(0, 0, true), 0);
        due("chance(0, 0, false) of 0", x.chance(0, 0, false), 1);
        x.build(7, 0);
        due("part(true) of 9/36", x.part(true), 1);
        due("part(false) of 9/36", x.part(false), 4);
        x.build(7, 0);
        due("share(0, true) of 9/2", x.share(0, true), 9);
        due("share(0, false) of 9/2", x.share(0, false), 2);
        due("chance(0, 5, true) of 75/100", x.chance(0, 5, true), 3);
        due("chance(0, 5, false) of 75/100", x.chance(0, 5, false), 4);
        due("chance(0, 10, true) of 0/100", x.chance(0, 10, true), 0);
        due("chance(0, 10, false) of 0/100", x.chance(0, 10, false), 1);
        x.build(7, 0);
        due("share(0, true) of 9/3", x.share(0, true), 3);
        due("share(0, false) of 9/3", x.share(0, false), 1);
        x.set(3, 9);
        due("part(true) of 36/36", x.part(true), 1);
        due("part(false) of 36/36", x.part(false), 1);
    }
}
