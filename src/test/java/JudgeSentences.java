/** Promise 23, the sequences of events. */
final class JudgeSentences extends Sentences {
    private static final String WALL = "G52" + "00300" + "00000";

    static void test() {
        promise(23);
        sequence();
        carriedOut();
        leads("An event is, by its first digit and the four digits a, b, c, d after it:");
        heights();
        towers();
        razed();
        hiddenCells();
        seenCells();
        settings();
        regions();
        notPossible();
        leadingZeros();
        firstWrong();
        outOfRange();
    }

    private static void judgeDue(HillSight x, String events, int want) {
        due("judge(" + events + ")", x.judge(events.length() / 5, Long.parseLong(events)), want);
    }

    /** The event with its last digits made other than 0, one by one: all that must be 0 is looked at. */
    private static void zerosNeeded(HillSight x, String event, int from) {
        judgeDue(x, event, NONE);
        for (int at = from; at < 5; at++) {
            for (char digit = '1'; digit <= '9'; digit++) {
                judgeDue(x, event.substring(0, at) + digit + event.substring(at + 1), 0);
            }
        }
    }

    private static void sequence() {
        says("Checks a sequence of one to three events, each given by five digits; the first event is that of the"
            + " highest digits of row.");
        HillSight x = read("G52" + zeros(10) + "t009");
        judgeDue(x, "40000", NONE);
        judgeDue(x, "40100", 0);
        judgeDue(x, "4000071000", 1);
        judgeDue(x, "7100040000", 0);
        judgeDue(x, "400007000071000", 2);
        judgeDue(x, "400007000070000", NONE);
    }

    private static void carriedOut() {
        says("The events are tried one after the other from the present state on; those of 1, 2, 3 and 6 are carried"
            + " out if they are possible, those of 4, 5 and 7 are statements.");
        HillSight x = read("G52" + zeros(10) + "t009");
        judgeDue(x, "1029040300", NONE);
        judgeDue(x, "4030010290", 0);
        judgeDue(x, "4000010290", NONE);
        judgeDue(x, "102901020040000", NONE);
        judgeDue(x, "400004000040000", NONE);
        due("cell(2, 0) stays", x.cell(2, 0), 0);
        x.raise(2, 9);
        judgeDue(x, "40300", NONE);
        judgeDue(x, "1020040000", NONE);
        HillSight y = read("G52" + zeros(10) + "t000s1");
        judgeDue(y, "202004020071000", NONE);
        judgeDue(y, "3000041000", NONE);
        judgeDue(y, "6320040400", NONE);
        // An event that is not possible is not carried out, and ends the sequence.
        judgeDue(y, "3100040600", 0);
        HillSight z = rich();
        judgeDue(z, "105902003030000", NONE);
        judgeDue(z, "609006110063100", NONE);
        dueText("an object after judge()", wholeOf(z), wholeOf(rich()));
    }

    private static void heights() {
        says("1: cell 10 * a + b gets the height c, where d must be 0;");
        // A tower of the rise 9: a wall of 4 hides one cell, a wall of 5 or more hides three.
        HillSight x = read("G52" + zeros(10) + "t009");
        int[] hidden = {0, 0, 0, 0, 1, 3, 3, 3, 3, 3};
        for (int c = 0; c <= 9; c++) {
            judgeDue(x, "102" + c + "0" + "40" + hidden[c] + "00", NONE);
        }
        zerosNeeded(x, "10250", 4);
        judgeDue(x, "10000", NONE);
        judgeDue(x, "10990", NONE);
        judgeDue(x, "11000", 0);
        judgeDue(x, "19990", 0);
        HillSight most = read("G66" + zeros(36));
        judgeDue(most, "13590", NONE);
        judgeDue(most, "13690", 0);
        judgeDue(new HillSight(), "10390", NONE);
        judgeDue(new HillSight(), "10490", 0);
    }

    private static void towers() {
        says("2: a tower with the rise c is added on cell 10 * a + b, where d must be 0, and there must be fewer than"
            + " five;");
        HillSight x = read(WALL + "e9");
        int[] hidden = {3, 3, 3, 3, 3, 3, 1, 1, 1, 0};
        for (int c = 0; c <= 9; c++) {
            judgeDue(x, "200" + c + "0" + "40" + hidden[c] + "00", NONE);
        }
        zerosNeeded(x, "20090", 4);
        judgeDue(x, "20990", NONE);
        judgeDue(x, "21090", 0);
        judgeDue(x, "29990", 0);
        for (int towers = 0; towers <= 5; towers++) {
            int room = 5 - towers;
            judgeDue(x, "200002000020000", room >= 3 ? NONE : room);
            judgeDue(x, "20000", room >= 1 ? NONE : 0);
            x.build(0, 0);
        }
        judgeDue(x, "300002000020000", 2);
        HillSight most = read("G66" + zeros(36));
        judgeDue(most, "2350040000", NONE);
        judgeDue(most, "23600", 0);
    }

    private static void razed() {
        says("3: tower a is removed, where b, c and d must be 0;");
        HillSight x = read("G52" + zeros(10) + "t000t040s1");
        zerosNeeded(x, "30000", 2);
        zerosNeeded(x, "31000", 2);
        for (int a = 2; a <= 9; a++) {
            judgeDue(x, "3" + a + "000", 0);
        }
        judgeDue(x, "300005041050000", NONE);
        judgeDue(x, "310005001050400", NONE);
        judgeDue(x, "300003000041000", NONE);
        judgeDue(x, "3100031000", 1);
        judgeDue(x, "300003000030000", 2);
        judgeDue(new HillSight(), "30000", 0);
        HillSight five = read("G220000" + "t000".repeat(5));
        judgeDue(five, "34000", NONE);
        judgeDue(five, "35000", 0);
    }

    private static void hiddenCells() {
        says("4: exactly 10 * a + b cells are hidden, where c and d must be 0;");
        HillSight all = read("G66" + zeros(36));
        for (int n = 0; n <= 99; n++) {
            judgeDue(all, "4" + n / 10 + n % 10 + "00", n == 36 ? NONE : 0);
        }
        zerosNeeded(all, "43600", 3);
        HillSight some = read("G66" + zeros(36) + "t070t280s1");
        for (int n = 16; n <= 20; n++) {
            judgeDue(some, "4" + n + "00", n == 18 ? NONE : 0);
        }
        HillSight none = read("G220000t000");
        zerosNeeded(none, "40000", 3);
        judgeDue(none, "40100", 0);
    }

    private static void seenCells() {
        says("5: some tower sees cell 10 * a + b (c is 1) or none does (c is 0), where d must be 0;");
        HillSight x = read("G66" + zeros(36) + "t350t280s1");
        zerosNeeded(x, "53510", 4);
        zerosNeeded(x, "50000", 4);
        judgeDue(x, "53500", 0);
        judgeDue(x, "50010", 0);
        judgeDue(x, "52110", NONE);
        for (int c = 2; c <= 9; c++) {
            judgeDue(x, "535" + c + "0", 0);
            judgeDue(x, "500" + c + "0", 0);
        }
        judgeDue(x, "53600", 0);
        judgeDue(x, "53610", 0);
        judgeDue(x, "59900", 0);
        judgeDue(x, "59910", 0);
        judgeDue(new HillSight(), "50300", NONE);
        judgeDue(new HillSight(), "50400", 0);
    }

    private static void settings() {
        says("6: setting a gets the value b, which may be its present one, where c and d must be 0;");
        HillSight x = new HillSight();
        for (int a = 0; a <= 9; a++) {
            for (int b = 0; b <= 9; b++) {
                judgeDue(x, "6" + a + b + "00", a <= 2 || a == 3 && b >= 1 ? NONE : 0);
            }
        }
        zerosNeeded(x, "60100", 3);
        zerosNeeded(x, "63900", 3);
        HillSight wall = read(WALL + "t000");
        int[] hiddenByMark = {3, 3, 3, 3, 3, 2, 0, 0, 0, 0};
        for (int mark = 0; mark <= 9; mark++) {
            judgeDue(wall, "61" + mark + "00" + "40" + hiddenByMark[mark] + "00", NONE);
        }
        judgeDue(wall, "6090040300", NONE);
        HillSight flat = read("G32" + zeros(6) + "t001");
        for (int bend = 0; bend <= 9; bend++) {
            judgeDue(flat, "62" + bend + "00" + (bend <= 5 ? "40000" : "40200"), NONE);
        }
        judgeDue(flat, "631004020063200", NONE);
        judgeDue(flat, "631006320040000", NONE);
    }

    private static void regions() {
        says("7: there are exactly a regions, where b, c and d must be 0.");
        HillSight x = read("G52" + zeros(10) + "t020t070s1");
        for (int a = 0; a <= 9; a++) {
            judgeDue(x, "7" + a + "000", a == 2 ? NONE : 0);
            judgeDue(new HillSight(), "7" + a + "000", a == 1 ? NONE : 0);
        }
        HillSight sixteen = read(BOARD);
        for (int a = 0; a <= 9; a++) {
            judgeDue(sixteen, "7" + a + "000", 0);
        }
        zerosNeeded(x, "72000", 2);
        x.set(3, 9);
        zerosNeeded(x, "70000", 2);
    }

    private static void notPossible() {
        says("Each other first digit, a cell, tower or setting that does not exist, and a value out of its range, is"
            + " not possible.");
        HillSight x = read("G52" + zeros(10) + "t000");
        for (String first : new String[] {"0", "8", "9"}) {
            judgeDue(x, first + "0000", 0);
            judgeDue(x, first + "0010", 0);
            judgeDue(x, first + "9999", 0);
            judgeDue(x, "40000" + first + "0000", 1);
        }
        judgeDue(x, "11000", 0);
        judgeDue(x, "21000", 0);
        judgeDue(x, "51000", 0);
        judgeDue(x, "51010", 0);
        judgeDue(x, "31000", 0);
        judgeDue(x, "64100", 0);
        judgeDue(x, "63000", 0);
        judgeDue(x, "50020", 0);
    }

    private static void leadingZeros() {
        says("n: the number of events row: the digits, as a number of at most 5 * n digits; leading zeros are"
            + " missing");
        HillSight x = read("G220000t000");
        due("judge(1, 40000)", x.judge(1, 40000), NONE);
        due("judge(2, 40000)", x.judge(2, 40000), 0);
        due("judge(3, 40000)", x.judge(3, 40000), 0);
        due("judge(3, 4000040000)", x.judge(3, 4000040000L), 0);
        due("judge(1, 0)", x.judge(1, 0), 0);
        due("judge(2, 0)", x.judge(2, 0), 0);
        due("judge(3, 0)", x.judge(3, 0), 0);
        due("judge(1, 4000)", x.judge(1, 4000), 0);
    }

    private static void firstWrong() {
        says("Returns the index, from 0, of the first event that is not possible or a statement that is false, or NONE"
            + " if there is none;");
        HillSight x = read("G220000t000");
        String[] right = {"40000", "10090", "70000"};
        String[] not = {"40100", "10490", "71000"};
        for (int pattern = 0; pattern < 8; pattern++) {
            StringBuilder events = new StringBuilder();
            for (int i = 0; i < 3; i++) {
                events.append((pattern >> i & 1) == 1 ? not[i] : right[i]);
            }
            int first = pattern == 0 ? NONE : Integer.numberOfTrailingZeros(pattern);
            judgeDue(x, events.toString(), first);
        }
    }

    private static void outOfRange() {
        says("BAD if n is not 1 to 3 or row is negative or has more than 5 * n digits.");
        HillSight x = read("G220000t000");
        for (int n : new int[] {LOW, -1, 0, 4, HIGH}) {
            due("judge(" + n + ", 0)", x.judge(n, 0), BAD);
            due("judge(" + n + ", 40000)", x.judge(n, 40000), BAD);
        }
        long[] limits = {0, 100000L, 10000000000L, 1000000000000000L};
        for (int n = 1; n <= 3; n++) {
            due("judge(" + n + ", the most)", x.judge(n, limits[n] - 1), 0);
            due("judge(" + n + ", one more)", x.judge(n, limits[n]), BAD);
            due("judge(" + n + ", a digit more)", x.judge(n, limits[n] / 10 * 40 + 40000), BAD);
            due("judge(" + n + ", Long.MAX_VALUE)", x.judge(n, Long.MAX_VALUE), BAD);
            due("judge(" + n + ", -1)", x.judge(n, -1), BAD);
            due("judge(" + n + ", -40000)", x.judge(n, -40000), BAD);
            due("judge(" + n + ", Long.MIN_VALUE)", x.judge(n, Long.MIN_VALUE), BAD);
        }
    }
}
