import java.math.BigInteger;

/** The promises of Shapley values, probabilities and random grids: 27 to 30. */
final class ChanceSentences extends Sentences {
    static void test() {
        share();
        chance();
        chanceRange();
        seed();
        drawn();
        drawnHeights();
        drawnRange();
    }

    private static void shareDue(HillSight x, int tower, int upper, int lower) {
        due("share(" + tower + ", true)", x.share(tower, true), upper);
        due("share(" + tower + ", false)", x.share(tower, false), lower);
    }

    private static void share() {
        promise(27);
        says("Computes the Shapley value of a tower: the towers come one after the other, in each order with the same"
            + " probability; the value is the mean number of cells that the tower sees when it comes and that none of"
            + " those before it sees.");
        HillSight one = read("G66" + zeros(36) + "t000");
        shareDue(one, 0, 36, 1);
        for (int towers = 2; towers <= 5; towers++) {
            one.build(35, 0);
            for (int t = 0; t < towers; t++) {
                shareDue(one, t, 36 / (towers == 5 ? 1 : towers), towers == 5 ? 5 : 1);
            }
        }
        // Columns 0 to 3 are seen by three, five, four and two towers.
        HillSight five = read("G62" + zeros(12) + "t000t010t010t020t020s1");
        shareDue(five, 0, 16, 15);
        shareDue(five, 1, 47, 30);
        shareDue(five, 2, 47, 30);
        shareDue(five, 3, 19, 10);
        shareDue(five, 4, 19, 10);
        HillSight apart = read("G66" + zeros(36) + "t000t350s1");
        shareDue(apart, 0, 4, 1);
        shareDue(apart, 1, 4, 1);
        leads("tower: the tower upper: true for the numerator; false for the denominator");
        says("Returns the numerator or denominator; UNKNOWN if there is no such tower.");
        for (int t : new int[] {LOW, -1, 2, 5, HIGH}) {
            shareDue(apart, t, UNKNOWN, UNKNOWN);
        }
        shareDue(new HillSight(), 0, UNKNOWN, UNKNOWN);
    }

    private static void chanceDue(HillSight x, int cell, int missing, int upper, int lower) {
        due("chance(" + cell + ", " + missing + ", true)", x.chance(cell, missing, true), upper);
        due("chance(" + cell + ", " + missing + ", false)", x.chance(cell, missing, false), lower);
    }

    private static void chance() {
        promise(28);
        says("Computes the probability that some tower sees a cell if each tower is missing with probability x / 10,"
            + " independently.");
        HillSight five = read("G220000" + "t000".repeat(5));
        int[][] want = {{1, 1}, {99999, 100000}, {3124, 3125}, {99757, 100000}, {3093, 3125}, {31, 32}, {2882, 3125},
            {83193, 100000}, {2101, 3125}, {40951, 100000}, {0, 1}};
        for (int x = 0; x <= 10; x++) {
            chanceDue(five, 3, x, want[x][0], want[x][1]);
        }
        HillSight some = read("G62" + zeros(12) + "t000t000t010t050t050s1");
        chanceDue(some, 0, 5, 7, 8);
        chanceDue(some, 2, 5, 1, 2);
        chanceDue(some, 2, 3, 7, 10);
        chanceDue(some, 4, 1, 99, 100);
        for (int x = 0; x <= 10; x++) {
            chanceDue(some, 3, x, 0, 1);
            chanceDue(new HillSight(), 3, x, 0, 1);
        }
    }

    private static void chanceRange() {
        leads("cell: the cell");
        says("x: 0 to 10");
        HillSight x = read("G220000t000");
        chanceDue(x, 0, 0, 1, 1);
        chanceDue(x, 0, 1, 9, 10);
        chanceDue(x, 0, 9, 1, 10);
        chanceDue(x, 0, 10, 0, 1);
        leads("upper: true for the numerator; false for the denominator");
        says("Returns the numerator or denominator; UNKNOWN if there is no such cell;");
        for (int c : new int[] {LOW, -1, 4, HIGH}) {
            chanceDue(x, c, 5, UNKNOWN, UNKNOWN);
            chanceDue(x, c, 11, UNKNOWN, UNKNOWN);
        }
        says("BAD if x is out of range.");
        for (int missing : new int[] {LOW, -1, 11, HIGH}) {
            chanceDue(x, 0, missing, BAD, BAD);
        }
    }

    private static void seed() {
        promise(29);
        says("Sets the random number, a long. v: the new random number");
        HillSight x = new HillSight();
        x.seed(1L << 40);
        due("seed(0), above an int", x.seed(0), 1L << 40);
        says("Returns the previous one.");
        due("seed(Long.MIN_VALUE)", x.seed(Long.MIN_VALUE), 0);
        due("seed(Long.MAX_VALUE)", x.seed(Long.MAX_VALUE), Long.MIN_VALUE);
        due("seed(-1)", x.seed(-1), Long.MAX_VALUE);
        due("seed(-1)", x.seed(-1), -1);
        due("seed(0)", x.seed(0), -1);
    }

    private static BigInteger next(long random) {
        return BigInteger.valueOf(random).multiply(new BigInteger("6364136223846793005"))
            .add(new BigInteger("1442695040888963407")).mod(BigInteger.ONE.shiftLeft(64));
    }

    private static void drawn() {
        promise(30);
        says("Each time the random number x becomes x * 6364136223846793005 + 1442695040888963407 in long arithmetic,"
            + " which wraps,");
        HillSight x = new HillSight();
        for (long s : new long[] {0, 1, -1, 2, 12345, Long.MAX_VALUE, Long.MIN_VALUE, 1L << 32, -(1L << 40)}) {
            x.seed(s);
            x.drawn(1);
            due("seed(0) after " + s, x.seed(0), next(s).longValue());
            long random = s;
            for (int i = 0; i < 20; i++) {
                random = next(random).longValue();
            }
            x.seed(s);
            x.drawn(20);
            due("seed(0) after 20 from " + s, x.seed(0), random);
        }
        due("seed(0) after 0", x.seed(0) + 1, 1);
        x.drawn(1);
        due("the first number", x.seed(0), 1442695040888963407L);
    }

    /** The sum that is due, found on an object of the same map by the changes themselves. */
    private static int sumOf(HillSight x, long seed, int m) {
        int cells = x.about(0) * x.about(1);
        long random = seed;
        int sum = 0;
        for (int i = 0; i < m; i++) {
            BigInteger unsigned = next(random);
            random = unsigned.longValue();
            int v = unsigned.shiftRight(33).intValueExact();
            x.raise(v % cells, v / 64 % 10);
            sum += x.about(7);
        }
        return sum;
    }

    private static void drawnHeights() {
        says("and v is its highest 31 bits, as a number of 0 or more. Cell v modulo (number of cells) gets the height"
            + " (v / 64) modulo 10, and the hidden cells are counted.");
        String[] maps = {"G62" + zeros(12) + "t000", "G55" + zeros(25) + "t123t000b2", "G66" + zeros(36) + "t145s4",
            "G43" + "123412341234" + "t001t111"};
        int negative = 0;
        for (String map : maps) {
            for (long s = -6; s <= 6; s++) {
                HillSight x = read(map);
                x.seed(s);
                due("drawn(1) from " + s + " of " + map, x.drawn(1), sumOf(read(map), s, 1));
                negative += next(s).longValue() < 0 ? 1 : 0;
            }
        }
        due("some numbers are negative", negative > 0 && negative < 4 * 13 ? 1 : 0, 1);
        HillSight hand = read("G62" + zeros(12) + "t000");
        hand.seed(1);
        // 1 becomes 7806831264735756412, whose highest 31 bits are 908834774: cell 2 gets the height 3.
        due("drawn(1) from 1", hand.drawn(1), 5);
        says("Changes heights at random in a copy of the grid.");
        String start = "G62" + zeros(12) + "t005";
        HillSight changed = read(start);
        HillSight twin = read(start);
        for (HillSight x : new HillSight[] {changed, twin}) {
            x.raise(1, 7);
            x.raise(7, 4);
            x.build(11, 2);
            x.set(1, 3);
            x.set(3, 4);
        }
        for (int s = 1; s <= 12; s++) {
            changed.seed(s);
            due("drawn(3) from " + s + ", the grid as it is now", changed.drawn(3), sumOf(twin, s, 3));
            for (int i = 0; i < 3; i++) {
                twin.undo();
            }
        }
        says("Heights stay from one time to the next one.");
        for (String map : maps) {
            for (int m = 2; m <= 20; m++) {
                HillSight x = read(map);
                x.seed(m * 7919L);
                due("drawn(" + m + ") of " + map, x.drawn(m), sumOf(read(map), m * 7919L, m));
            }
        }
        says("Only the random number changes.");
        HillSight x = rich();
        x.drawn(20);
        due("seed(77)", x.seed(77) == 77 ? 1 : 0, 0);
        dueText("an object after drawn()", wholeOf(x), wholeOf(rich()));
    }

    private static void drawnRange() {
        says("m: how many times, 1 to 20");
        HillSight x = new HillSight();
        for (int m = 1; m <= 20; m++) {
            due("drawn(" + m + ")", x.drawn(m), 4 * m);
        }
        says("Returns the sum of the numbers of hidden cells;");
        due("drawn(20) of all hidden", read("G66" + zeros(36)).drawn(20), 36 * 20);
        due("drawn(20) of none hidden", read("G220000t000").drawn(20), 0);
        says("BAD if m is out of range.");
        x.seed(5);
        for (int m : new int[] {LOW, -1, 0, 21, HIGH}) {
            due("drawn(" + m + ")", x.drawn(m), BAD);
        }
        due("seed(5)", x.seed(5), 5);
    }
}
