/** Promises 11, 12, 13, 16 to 20: days that go by, trials of them, breaches and sums. */
public final class DaysTest {
    private static final int LEAST = Integer.MIN_VALUE;
    private static final int GREATEST = Integer.MAX_VALUE;

    public static void main(String[] args) {
        rainIsTold();
        seepOfWater();
        inOrder();
        holdIsKeptBack();
        badYear();
        badYearAsTheFieldsAreFed();
        fairShares();
        fairFedByARemainder();
        fairInABadYear();
        drainAndSpill();
        bankHolds();
        breachRunsDown();
        breachedTankStillFeeds();
        lateBreachCounts();
        trialsChangeNothing();
        trialsAreRefused();
        lossesBelow();
        mostFed();
        mostOfThree();
        mostIsRefused();
        sumsAddUp();
        Due.close();
    }

    private static void rainIsTold() {
        TankChain x = new TankChain(2);
        x.tank(0, 3, 1000, 0);
        x.tank(1, 1, 1000, 0);
        Due.due("day(-1)", x.day(-1), 1);
        Due.due("rain", x.count(7), 0);
        Due.due("day(2)", x.day(2), 2);
        Due.due("rain", x.count(7), 8);
        Due.due("water", x.told(0, 3), 6);
        Due.due("day(51)", x.day(51), -1);
        Due.due("day(-2)", x.day(-2), -1);
        Due.due("day(least)", x.day(LEAST), -1);
        Due.due("day(greatest)", x.day(GREATEST), -1);
        Due.due("the day", x.count(0), 2);
        x.tried(0, 1, 50);
        Due.due("day(-1)", x.day(-1), 3);
        Due.due("rain, as the last told", x.count(7), 16);
        Due.due("day(0)", x.day(0), 4);
        Due.due("day(-1)", x.day(-1), 5);
        Due.due("rain, none since", x.count(7), 16);
        Due.due("day(50)", x.day(50), 6);
        Due.due("rain", x.count(7), 216);
    }

    private static void seepOfWater() {
        TankChain x = new TankChain(2);
        x.tank(0, 1, 1000, 0);
        x.water(0, 48);
        x.day(1);
        Due.due("seep of 49", x.count(5), 0);
        x.day(1);
        Due.due("seep of 50", x.count(5), 1);
        Due.due("water", x.told(0, 3), 49);
        x.water(0, 1000);
        x.day(0);
        Due.due("seep of 1000", x.count(5), 21);
        Due.due("water", x.told(0, 3), 980);
    }

    private static void inOrder() {
        TankChain x = new TankChain(2);
        x.field(0, 0, 8, 0, false);
        x.field(0, 0, 6, 0, false);
        x.field(0, 0, 2, 0, false);
        x.water(0, 100);
        x.open(0, 10);
        x.day(0);
        Due.dueRow("got of 10", Due.got(x, 3), 8, 0, 2);
        Due.due("taken", x.told(0, 8), 10);
        x.open(0, 9);
        x.day(0);
        Due.dueRow("got of 9", Due.got(x, 3), 8, 0, 0);
        Due.due("taken", x.told(0, 8), 8);
        x.open(0, 7);
        x.day(0);
        Due.dueRow("got of 7", Due.got(x, 3), 0, 6, 0);
        x.open(0, 16);
        x.day(0);
        Due.dueRow("got of 16", Due.got(x, 3), 8, 6, 2);
        x.open(0, 20);
        x.day(0);
        Due.dueRow("got of 20", Due.got(x, 3), 8, 6, 2);
        Due.due("taken", x.told(0, 8), 16);
        x.open(0, 0);
        x.day(0);
        Due.dueRow("got of a shut sluice", Due.got(x, 3), 0, 0, 0);
        Due.due("days fed", x.fieldOf(0, 5), 4);
        Due.due("days fed", x.fieldOf(1, 5), 3);
        Due.due("days fed", x.fieldOf(2, 5), 3);
        Due.due("got ever", x.fieldOf(0, 6), 32);
        Due.due("got ever", x.fieldOf(1, 6), 18);
        Due.due("got ever", x.fieldOf(2, 6), 6);
    }

    private static void holdIsKeptBack() {
        TankChain x = new TankChain(2);
        x.tank(0, 0, 99, 0);
        x.field(0, 0, 3, 0, false);
        x.open(0, 20);
        Due.take(x, "hold 5; hold 11;");
        x.water(0, 12);
        x.day(0);
        Due.due("taken of 12 less 10", x.told(0, 8), 0);
        x.water(0, 13);
        x.day(0);
        Due.due("taken of 13 less 10", x.told(0, 8), 3);
        x.water(0, 9);
        x.day(0);
        Due.due("taken of 9 less 10", x.told(0, 8), 0);
        Due.take(x, "hold 100;");
        x.water(0, 99);
        x.day(0);
        Due.due("taken with a hold of all", x.told(0, 8), 0);
        Due.take(x, "hold 999;");
        x.water(0, 99);
        x.day(0);
        Due.due("taken with a hold of more", x.told(0, 8), 0);
        Due.take(x, "hold 999; hold 0;");
        x.water(0, 3);
        x.day(0);
        Due.due("taken with none", x.told(0, 8), 3);
        x.field(0, 0, 1, 0, false);
        Due.take(x, "hold 20; hold 11;");
        x.water(0, 10);
        x.day(0);
        Due.due("taken of 10 less 10", x.told(0, 8), 0);
        x.water(0, 11);
        x.day(0);
        Due.due("taken of 11 less 10", x.told(0, 8), 1);
    }

    private static void badYear() {
        TankChain x = new TankChain(2);
        x.tank(0, 0, 11, 0);
        x.field(0, 9, 1, 0, false);
        x.field(0, 4, 1, 0, false);
        x.field(0, 3, 1, 0, false);
        x.open(0, 20);
        x.water(0, 4);
        x.day(0);
        Due.dueRow("got, no near told", Due.got(x, 3), 1, 1, 1);
        Due.take(x, "near 9; near 3;");
        x.water(0, 5);
        x.day(0);
        Due.dueRow("got with half of 11, cut", Due.got(x, 3), 1, 1, 1);
        x.water(0, 4);
        x.day(0);
        Due.dueRow("got below it", Due.got(x, 3), 0, 0, 1);
        Due.take(x, "near 3; near 4;");
        x.water(0, 4);
        x.day(0);
        Due.dueRow("got with near 4", Due.got(x, 3), 0, 1, 1);
        Due.take(x, "near 0;");
        x.water(0, 4);
        x.day(0);
        Due.dueRow("got with near 0", Due.got(x, 3), 0, 0, 0);
        Due.take(x, "near 999;");
        x.water(0, 4);
        x.day(0);
        Due.dueRow("got with near 999", Due.got(x, 3), 1, 1, 1);
    }

    private static void badYearAsTheFieldsAreFed() {
        TankChain x = new TankChain(2);
        x.tank(0, 10, 100, 500);
        x.field(0, 5, 4, 0, false);
        x.open(0, 4);
        Due.take(x, "near 4;");
        x.water(0, 41);
        x.day(1);
        Due.due("got, no bad year with the rain", x.fieldOf(0, 7), 4);
        x.water(0, 50);
        x.day(0);
        Due.due("got, a bad year by what seeps", x.fieldOf(0, 7), 0);
        x.water(0, 52);
        x.day(0);
        Due.due("got from 51 on", x.fieldOf(0, 7), 4);
        Due.due("a bad year behind it", x.told(0, 11), 1);
    }

    private static TankChain fairTank(int... areas) {
        TankChain x = new TankChain(2);
        for (int area : areas) {
            x.field(0, 0, area, 0, false);
        }
        Due.take(x, "fair;");
        x.water(0, 100);
        return x;
    }

    private static void fairShares() {
        TankChain x = fairTank(5, 8, 4);
        x.open(0, 8);
        x.day(0);
        Due.dueRow("got of 8 by 17", Due.got(x, 3), 2, 4, 2);
        Due.due("taken", x.told(0, 8), 8);
        x.open(0, 16);
        x.day(0);
        Due.dueRow("got of 16 by 17", Due.got(x, 3), 5, 7, 4);
        x.open(0, 17);
        x.day(0);
        Due.dueRow("got of 17", Due.got(x, 3), 5, 8, 4);
        x.open(0, 20);
        x.day(0);
        Due.dueRow("got of 20", Due.got(x, 3), 5, 8, 4);
        Due.due("taken", x.told(0, 8), 17);
        TankChain y = fairTank(3, 3, 3, 3);
        y.open(0, 6);
        y.day(0);
        Due.dueRow("got, remainders alike", Due.got(y, 4), 2, 2, 1, 1);
        TankChain w = fairTank(1, 4);
        w.open(0, 2);
        w.day(0);
        Due.dueRow("got of 2 by 5", Due.got(w, 2), 0, 2);
        TankChain z = fairTank(3, 3, 3);
        z.field(0, 0, 3, 0, true);
        Due.take(z, "fair; first temple;");
        z.open(0, 5);
        z.day(0);
        Due.dueRow("got, alike, in order", Due.got(z, 4), 1, 1, 1, 2);
    }

    private static void fairFedByARemainder() {
        TankChain x = fairTank(1, 1, 2);
        x.open(0, 1);
        x.day(0);
        Due.dueRow("got of 1 by 4", Due.got(x, 3), 0, 0, 1);
        x.open(0, 2);
        x.day(0);
        Due.dueRow("got of 2 by 4", Due.got(x, 3), 1, 0, 1);
        x.open(0, 3);
        x.day(0);
        Due.dueRow("got of 3 by 4", Due.got(x, 3), 1, 1, 1);
        Due.due("days fed by a remainder", x.fieldOf(0, 5), 2);
        Due.due("days fed", x.fieldOf(1, 5), 1);
        Due.due("days fed", x.fieldOf(2, 5), 0);
        Due.due("areas fed of the owner", x.owner(0), 3);
    }

    private static void fairInABadYear() {
        TankChain x = new TankChain(2);
        x.field(0, 5, 6, 0, false);
        x.field(0, 1, 4, 0, false);
        x.field(0, 0, 5, 0, false);
        Due.take(x, "fair; near 1;");
        x.open(0, 9);
        x.water(0, 40);
        x.day(0);
        Due.dueRow("got, 9 enough for the near ones", Due.got(x, 3), 0, 4, 5);
        x.open(0, 6);
        x.day(0);
        Due.dueRow("got of 6 by 9", Due.got(x, 3), 0, 3, 3);
        x.water(0, 100);
        x.day(0);
        Due.dueRow("got of 6 by 15", Due.got(x, 3), 2, 2, 2);
        x.open(1, 20);
        x.water(1, 100);
        x.day(0);
        Due.due("taken where no field is", x.told(1, 8), 0);
        TankChain y = new TankChain(2);
        for (int area = 1; area <= 5; area++) {
            y.field(0, area < 4 ? 5 : 1, area, 0, false);
        }
        Due.take(y, "fair; near 1;");
        y.open(0, 9);
        y.water(0, 40);
        y.day(0);
        Due.dueRow("got, far ones' areas don't count", Due.got(y, 5), 0, 0, 0, 4, 5);
        TankChain z = new TankChain(2);
        z.field(0, 5, 1, 0, false);
        z.field(0, 1, 1, 0, false);
        z.field(0, 1, 1, 0, false);
        z.field(0, 1, 1, 0, false);
        Due.take(z, "fair; near 1;");
        z.open(0, 1);
        z.water(0, 40);
        z.day(0);
        Due.dueRow("got, a far one has no remainder", Due.got(z, 4), 0, 1, 0, 0);
    }

    private static void drainAndSpill() {
        TankChain x = new TankChain(3);
        x.tank(1, 0, 30, 500);
        x.field(0, 0, 7, 0, false);
        x.field(1, 0, 3, 0, false);
        x.open(0, 7);
        x.open(1, 3);
        x.water(0, 49);
        x.water(1, 30);
        x.day(0);
        Due.due("water less 7", x.told(0, 3), 42);
        Due.due("spill of tank 0", x.told(0, 9), 0);
        Due.due("water up to its room", x.told(1, 3), 30);
        Due.due("water drained of 3", x.told(2, 3), 1);
        x.open(1, 0);
        x.day(0);
        Due.due("spill of what drained", x.told(1, 9), 3);
        Due.due("water below", x.told(2, 3), 4);
        Due.due("kept ever", x.count(6), 4 + 2 + 4);
        Due.due("out ever", x.count(4), 0);
        x.field(2, 0, 3, 0, false);
        x.open(2, 3);
        x.open(0, 0);
        x.day(0);
        Due.due("out ever, drained", x.count(4), 1);
        x.water(2, 100);
        x.open(2, 0);
        x.tank(2, 0, 10, 0);
        x.water(1, 30);
        x.open(1, 3);
        x.day(0);
        Due.due("water of the last", x.told(2, 3), 99);
        Due.due("out ever", x.count(4), 1);
        TankChain y = new TankChain(2);
        y.tank(1, 2, 50, 500);
        y.field(1, 0, 6, 0, false);
        y.open(1, 6);
        y.day(40);
        Due.due("spill of the last", y.told(1, 9), 80 - 1 - 6 - 50);
        Due.due("out ever, drained and spilt", y.count(4), 3 + 23);
    }

    private static void bankHolds() {
        TankChain x = new TankChain(2);
        x.tank(0, 1, 10, 20);
        x.water(0, 10);
        x.day(20);
        Due.due("spill as the bank", x.told(0, 9), 20);
        Due.due("whole", x.told(0, 6), 0);
        Due.due("water", x.told(0, 3), 10);
        Due.due("water below", x.told(1, 3), 20);
        x.day(21);
        Due.due("breached above it", x.told(0, 6), 1);
        Due.due("spill, all", x.told(0, 9), 31);
        Due.due("water", x.told(0, 3), 0);
        Due.due("room", x.told(0, 7), 0);
        Due.due("day of it", x.told(0, 10), 1);
        Due.due("water below", x.told(1, 3), 20 + 31 - 1);
        TankChain y = new TankChain(2);
        y.tank(0, 1, 10, 0);
        y.water(0, 10);
        y.day(0);
        Due.due("no spill, bank of 0", y.told(0, 6), 0);
        y.day(1);
        Due.due("spill of 1, bank of 0", y.told(0, 6), 1);
    }

    private static void breachRunsDown() {
        TankChain x = new TankChain(4);
        x.tank(1, 2, 100, 0);
        x.tank(2, 0, 100, 100);
        x.tank(3, 0, 100, 97);
        x.day(0);
        x.water(1, 99);
        x.water(2, 100);
        x.water(3, 100);
        x.day(2);
        // tank 1: 103 less 2; tank 2: 201 less 4, 97 spilt as its bank holds; tank 3: 197 less 3, 94
        Due.due("spill of tank 1", x.told(1, 9), 101);
        Due.due("spill of tank 2", x.told(2, 9), 97);
        Due.due("spill of tank 3", x.told(3, 9), 94);
        Due.due("breach(0)", x.breach(0), 1);
        Due.due("breach(1)", x.breach(1), 1);
        Due.due("breach(2)", x.breach(2), 1);
        Due.due("out ever", x.count(4), 94);
        x.mend(2, 10);
        x.mend(1, 0);
        x.water(1, 100);
        x.day(1);
        // tank 1: 102 less 2 fits; nothing runs down
        Due.due("tank 1 stays whole", x.told(1, 6), 0);
        x.day(3);
        // tank 1: 106 less 2, all; tank 2: 202 less 4, all; tank 3: 295 less 5, all
        Due.dueRow("breached", new int[] {x.told(0, 6), x.told(1, 6), x.told(2, 6), x.told(3, 6)}, 0, 1, 1, 1);
        Due.dueRow("breach", new int[] {x.breach(0), x.breach(1), x.breach(2)}, 1, 3, 3);
        Due.dueRow("days", new int[] {x.told(0, 10), x.told(1, 10), x.told(2, 10), x.told(3, 10)}, -1, 3, 3, 3);
        Due.due("all water", x.count(3), 0);
    }

    private static void breachedTankStillFeeds() {
        TankChain x = new TankChain(2);
        x.tank(0, 10, 100, 0);
        x.tank(1, 0, 1000, 500);
        x.field(0, 3, 5, 0, false);
        x.open(0, 20);
        Due.take(x, "near 2;");
        x.day(50);
        Due.due("breached", x.told(0, 6), 1);
        x.day(6);
        // 60 less 1: no bad year; 5 taken; 54 spilt, no breach again
        Due.due("taken", x.told(0, 8), 5);
        Due.due("spill", x.told(0, 9), 54);
        Due.due("day of the breach", x.told(0, 10), 0);
        Due.due("breach(2)", x.breach(2), 0);
        x.day(5);
        Due.due("taken in a bad year", x.told(0, 8), 0);
        Due.due("spill", x.told(0, 9), 49);
        x.mend(0, 0);
        x.day(5);
        Due.due("water of one mended", x.told(0, 3), 49);
        Due.due("the day of its last breach stays", x.told(0, 10), 0);
        Due.due("breach(1)", x.breach(1), 1);
    }

    private static void lateBreachCounts() {
        TankChain x = new TankChain(3);
        x.tank(0, 20, 10, 0);
        x.tank(1, 0, 1000, 500);
        x.tank(2, 1, 10, 0);
        x.day(5);
        Due.dueRow("breach, first day", new int[] {x.breach(0), x.breach(1), x.breach(2)}, 0, 1, 0);
        x.day(0);
        Due.dueRow("breach, behind one without", new int[] {x.breach(0), x.breach(1), x.breach(2)}, 0, 1, 0);
        x.day(6);
        Due.dueRow("breach, third day", new int[] {x.breach(0), x.breach(1), x.breach(2)}, 2, 1, 2);
        x.mend(0, 0);
        x.mend(2, 0);
        x.day(11);
        Due.dueRow("breach, fourth day", new int[] {x.breach(0), x.breach(1), x.breach(2)}, 0, 2, 3);
        Due.due("told(2, 10)", x.told(2, 10), 3);
    }

    private static TankChain valley() {
        TankChain x = new TankChain(4);
        for (int t = 0; t < 4; t++) {
            x.tank(t, 2 + t, 60 + 20 * t, 10 + 5 * t);
            x.open(t, 6 + 3 * t);
            x.water(t, 30 + 10 * t);
        }
        for (int f = 0; f < 12; f++) {
            x.field(f % 4, f % 5, 2 + f % 7, f % 3, f % 5 == 0);
        }
        Due.take(x, "first temple; near 2; hold 10;");
        return x;
    }

    private static long digest(TankChain x) {
        long sum = 0;
        for (int t = 0; t < x.count(1); t++) {
            for (int what = 0; what < 12; what++) {
                sum = sum * 31 + x.told(t, what);
            }
        }
        for (int f = 0; f < x.count(2); f++) {
            for (int what = 0; what < 8; what++) {
                sum = sum * 31 + x.fieldOf(f, what);
            }
        }
        for (int what = 0; what < 10; what++) {
            sum = sum * 31 + x.count(what) + 7L * x.owner(what) + 3L * x.breach(what);
        }
        return sum;
    }

    private static void trialsChangeNothing() {
        TankChain x = valley();
        x.day(1);
        long before = digest(x);
        x.tried(3, 10, 50);
        Due.due("all behind tried", digest(x), before);
        x.lost(0, 3, 10, 50);
        Due.due("all behind lost", digest(x), before);
        x.most(1, 3, 10, 50, 0);
        Due.due("all behind most", digest(x), before);
        for (int rain = 0; rain <= 50; rain += 5) {
            for (int d = 1; d <= 10; d++) {
                TankChain y = valley();
                int[] foretold = new int[4];
                for (int t = 0; t < 4; t++) {
                    foretold[t] = y.tried(t, d, rain);
                }
                for (int i = 0; i < d; i++) {
                    y.day(rain);
                }
                Due.dueRow("tried " + d + " days of " + rain, foretold,
                    y.told(0, 3), y.told(1, 3), y.told(2, 3), y.told(3, 3));
            }
        }
    }

    private static void trialsAreRefused() {
        TankChain x = new TankChain(3);
        int[][] refused = {
            {-1, 1, 0}, {3, 1, 0}, {LEAST, 1, 0}, {GREATEST, 1, 0},
            {0, 0, 0}, {0, 11, 0}, {0, -1, 0}, {0, LEAST, 0}, {0, GREATEST, 0},
            {0, 1, -1}, {0, 1, 51}, {0, 1, LEAST}, {0, 1, GREATEST},
        };
        for (int[] a : refused) {
            Due.due("tried" + java.util.Arrays.toString(a), x.tried(a[0], a[1], a[2]), -1);
            Due.due("lost of k " + java.util.Arrays.toString(a), x.lost(a[0], 2, a[1], a[2]), -100000);
            Due.due("most of k " + java.util.Arrays.toString(a), x.most(a[0], 1, a[1], a[2], 0), -1);
        }
        int[][] lostRefused = {{1, 1}, {2, 1}, {0, -1}, {0, 3}, {-1, 0}, {2, 3}, {LEAST, GREATEST}, {GREATEST, LEAST}};
        for (int[] a : lostRefused) {
            Due.due("lost" + java.util.Arrays.toString(a), x.lost(a[0], a[1], 1, 0), -100000);
        }
        Due.due("tried(2, 1, 0)", x.tried(2, 1, 0), 0);
        Due.due("tried(0, 10, 50)", x.tried(0, 10, 50), 0);
        Due.due("lost(0, 1, 1, 0)", x.lost(0, 1, 1, 0), 0);
        Due.due("lost(1, 2, 10, 50)", x.lost(1, 2, 10, 50), 0);
    }

    private static void lossesBelow() {
        TankChain x = new TankChain(3);
        x.field(0, 0, 10, 0, false);
        x.open(0, 10);
        x.water(0, 40);
        Due.due("lost(0, 1, 1, 0), what would drain", x.lost(0, 1, 1, 0), -5);
        Due.due("lost(0, 1, 3, 0)", x.lost(0, 1, 3, 0), -15);
        Due.due("lost(0, 2, 1, 0)", x.lost(0, 2, 1, 0), 0);
        Due.due("lost(1, 2, 1, 0)", x.lost(1, 2, 1, 0), 0);
        x.water(0, 49);
        x.tank(0, 20, 50, 500);
        // a day of 1: 69 less 1; taken 10, 5 drained and 8 spilt, or 18 spilt
        Due.due("lost(0, 1, 1, 1), what would spill", x.lost(0, 1, 1, 1), 18 - 13);
        x.tank(0, 20, 50, 10);
        // shut, it breaches: all 68 goes down; as it is, 5 and 8
        Due.due("lost(0, 1, 1, 1), what would run down", x.lost(0, 1, 1, 1), 67 - 13);
        Due.due("still whole", x.told(0, 6), 0);
        Due.due("opening", x.told(0, 4), 10);
        TankChain y = new TankChain(2);
        y.field(0, 0, 1, 0, false);
        y.field(0, 0, 2, 0, false);
        y.open(0, 3);
        y.water(0, 30);
        Due.due("lost(0, 1, 1, 0) of a small field", y.lost(0, 1, 1, 0), -1);
        Due.due("lost(0, 1, 10, 0)", y.lost(0, 1, 10, 0), -10);
        TankChain z = new TankChain(2);
        z.tank(0, 5, 10, 500);
        z.field(0, 0, 1, 0, false);
        z.open(0, 20);
        z.water(0, 10);
        Due.due("lost(0, 1, 1, 1), what would spill, of 1", z.lost(0, 1, 1, 1), 1);
    }

    private static void mostFed() {
        TankChain x = new TankChain(2);
        x.field(0, 0, 9, 0, false);
        x.field(0, 0, 7, 0, false);
        x.water(0, 49);
        x.open(0, 3);
        Due.due("most(0, 1, 1, 0, 0)", x.most(0, 1, 1, 0, 0), 16);
        Due.due("its opening", x.most(0, 1, 1, 0, 1), 20);
        Due.due("most(0, 1, 10, 0, 0)", x.most(0, 1, 10, 0, 0), 48);
        // 20: 16 a day of 49 are 3 days and 1 left; 15: 9 a day are 5 and 4 left; 10: as much as 15
        Due.due("its opening", x.most(0, 1, 10, 0, 1), 20);
        Due.due("most(1, 1, 1, 0, 0), no field", x.most(1, 1, 1, 0, 0), 0);
        Due.due("its opening", x.most(1, 1, 1, 0, 1), 0);
        TankChain z = new TankChain(2);
        z.field(0, 0, 20, 0, false);
        z.field(0, 0, 5, 0, false);
        z.water(0, 49);
        Due.due("most with 20 and no more", z.most(0, 1, 1, 0, 0), 20);
        Due.due("its opening", z.most(0, 1, 1, 0, 1), 20);
        TankChain y = new TankChain(2);
        y.field(0, 0, 9, 0, false);
        y.field(1, 0, 4, 0, false);
        y.water(0, 49);
        Due.due("most(0, 1, 1, 0, 0)", y.most(0, 1, 1, 0, 0), 9);
        Due.due("the least of 10, 15, 20", y.most(0, 1, 1, 0, 1), 10);
        y.open(1, 4);
        Due.due("most(0, 1, 1, 0, 0), others as they are", y.most(0, 1, 1, 0, 0), 13);
        y.open(0, 20);
        Due.due("most(1, 1, 1, 0, 0), the first as it is", y.most(1, 1, 1, 0, 0), 13);
        Due.due("its opening", y.most(1, 1, 1, 0, 1), 5);
        Due.due("opening stays", y.told(0, 4), 20);
    }

    private static void mostOfThree() {
        TankChain x = new TankChain(4);
        x.field(1, 0, 11, 0, false);
        x.field(2, 0, 5, 0, false);
        x.field(3, 0, 1, 0, false);
        x.water(1, 22);
        x.water(3, 1);
        // tank 2 has only what drains from 11: 5
        int[] row = new int[4];
        for (int what = 0; what < 4; what++) {
            row[what] = x.most(1, 3, 1, 0, what);
        }
        Due.dueRow("most(1, 3, 1, 0)", row, 17, 15, 5, 5);
        Due.dueRow("most(1, 2, 1, 0)", new int[] {x.most(1, 2, 1, 0, 0), x.most(1, 2, 1, 0, 1), x.most(1, 2, 1, 0, 2)},
            16, 15, 5);
        TankChain y = new TankChain(2);
        y.field(0, 0, 10, 0, false);
        y.field(1, 0, 10, 0, false);
        y.tank(0, 0, 10, 0);
        y.water(0, 10);
        y.water(1, 5);
        // with the first shut there are 10 only below; open, the 5 that drain make up for it: 20 in all
        Due.dueRow("most(0, 2, 1, 0)", new int[] {y.most(0, 2, 1, 0, 0), y.most(0, 2, 1, 0, 1), y.most(0, 2, 1, 0, 2)},
            20, 10, 10);
        // either one of them alone may be fed: the first's least opening comes first
        TankChain z = new TankChain(2);
        z.tank(0, 1, 10, 0);
        z.field(0, 0, 10, 0, false);
        z.field(1, 0, 10, 0, false);
        z.water(0, 10);
        Due.dueRow("most(0, 2, 1, 1)", new int[] {z.most(0, 2, 1, 1, 0), z.most(0, 2, 1, 1, 1), z.most(0, 2, 1, 1, 2)},
            10, 0, 10);
    }

    private static void mostIsRefused() {
        TankChain x = new TankChain(3);
        int[][] refused = {
            {0, 0, 0}, {0, 4, 0}, {0, -1, 0}, {0, LEAST, 0}, {0, GREATEST, 0},
            {1, 3, 0}, {2, 2, 0}, {2, 3, 0}, {3, 1, 0}, {GREATEST, 3, 0},
            {0, 1, -1}, {0, 1, 2}, {0, 2, 3}, {0, 3, 4}, {0, 3, LEAST}, {0, 3, GREATEST},
        };
        for (int[] a : refused) {
            Due.due("most" + java.util.Arrays.toString(a), x.most(a[0], a[1], 1, 0, a[2]), -1);
        }
        TankChain y = new TankChain(11);
        Due.due("most(0, 4, 1, 0, 0) of eleven", y.most(0, 4, 1, 0, 0), -1);
        Due.due("most(8, 3, 1, 0, 3) of eleven", y.most(8, 3, 1, 0, 3), 0);
        Due.due("most(9, 3, 1, 0, 3) of eleven", y.most(9, 3, 1, 0, 3), -1);
        Due.due("most(0, 3, 10, 50, 3)", x.most(0, 3, 10, 50, 3), 0);
        Due.due("most(2, 1, 1, 0, 1)", x.most(2, 1, 1, 0, 1), 0);
    }

    private static void sumsAddUp() {
        TankChain x = valley();
        for (int i = 0; i < 110; i++) {
            x.day(i * 7 % 13 - 1);
            if (i % 4 == 0) {
                x.mend(i / 4 % 4, 30);
                x.water(i / 4 % 4, i % 40);
            }
            int left = x.count(7) + x.count(9) - x.count(5) - x.count(6) - x.count(4);
            Due.due("rain and told less seep, kept and out, day " + x.count(0), left, x.count(3));
        }
    }
}
