/** Promises 6, 7, 11 to 13 and 15 to 20: the cuts at numbers that don't divide, and each bound of a day from both sides. */
public final class CutsTest {
    public static void main(String[] args) {
        seepOfAFiftieth();
        rainTimesCatch();
        halfOfSize();
        givenByOpeningAndHold();
        holdOfAllOfSize();
        areaThatIsJustLeft();
        sharesThatDontDivide();
        sharesAroundAllAreas();
        sharesOfTheNearOnes();
        fortyAlikeShares();
        halfThatDrains();
        roomJustFull();
        bankJustHolds();
        bankHoldsWhatComesDown();
        firstSizeAndBank();
        breachedBreachesNoMore();
        siltOfAFiftieth();
        siltAheadOfTheDay();
        siltOfOneBreached();
        latestDayAlone();
        fedJustNot();
        ownersApart();
        breachesOfADay();
        triedAcrossASiltDay();
        triedCarriesABreach();
        lostToOneBelow();
        openingsOfMost();
        mostOfAlikes();
        mostOfFairShares();
        mostOverDays();
        sumsOfADay();
        toldBelowNothing();
        greatestSums();
        Due.close();
    }

    private static TankChain oneTank(int catches, int size, int bank) {
        TankChain x = new TankChain(2);
        x.tank(0, catches, size, bank);
        x.tank(1, 0, 1000, 500);
        return x;
    }

    private static void seepOfAFiftieth() {
        int[][] waterAndSeep = {
            {0, 0}, {1, 0}, {48, 0}, {49, 0}, {50, 1}, {51, 1}, {98, 1}, {99, 1}, {100, 2}, {101, 2}, {149, 2}, {150, 3},
            {499, 9}, {500, 10}, {949, 18}, {950, 19}, {999, 19}, {1000, 20},
        };
        for (int[] one : waterAndSeep) {
            TankChain x = oneTank(0, 1000, 0);
            x.water(0, one[0]);
            Due.due("tried of " + one[0], x.tried(0, 1, 0), one[0] - one[1]);
            x.day(0);
            Due.due("seep of " + one[0], x.count(5), one[1]);
            Due.due("water of " + one[0], x.told(0, 3), one[0] - one[1]);
        }
        TankChain x = oneTank(1, 1000, 0);
        x.water(0, 30);
        x.day(19);
        Due.due("seep of 30 and a rain of 19", x.count(5), 0);
        x.water(0, 30);
        x.day(20);
        Due.due("seep of 30 and a rain of 20", x.count(5), 1);
        x.water(0, 0);
        x.water(1, 99);
        x.day(0);
        Due.due("seep of 99", x.count(5), 2);
        // what comes from above seeps below, too: 40 breach down on 98 less 1 that seeps
        TankChain y = oneTank(20, 10, 0);
        y.water(1, 59);
        y.day(2);
        Due.due("seep of 59 and 40 from above", y.count(5), 1);
        Due.due("water of it", y.told(1, 3), 98);
        TankChain z = oneTank(20, 10, 0);
        z.water(1, 60);
        z.day(2);
        Due.due("seep of 60 and 40 from above", z.count(5), 2);
        Due.due("water of it", z.told(1, 3), 98);
    }

    private static void rainTimesCatch() {
        int[][] rainCatchAndSum = {
            {0, 20, 0}, {1, 0, 0}, {50, 0, 0}, {1, 1, 1}, {49, 20, 980}, {50, 19, 950}, {50, 20, 1000}, {7, 13, 91},
        };
        for (int[] one : rainCatchAndSum) {
            TankChain x = new TankChain(2);
            x.tank(1, one[1], 1000, 500);
            x.day(one[0]);
            Due.due("rain of " + one[0] + " by " + one[1], x.count(7), one[2]);
            Due.due("water of it", x.told(1, 3), one[2] - one[2] / 50);
        }
    }

    private static void halfOfSize() {
        int[][] sizeAndHalf = {{10, 5}, {11, 5}, {12, 6}, {99, 49}, {100, 50}, {101, 50}, {999, 499}, {1000, 500}};
        for (int[] one : sizeAndHalf) {
            int half = one[1];
            for (int water = half - 1; water <= half + 1; water++) {
                TankChain x = oneTank(0, one[0], 500);
                x.water(0, water);
                Due.due("bad year, " + water + " of " + one[0], x.told(0, 11), water < half ? 1 : 0);
            }
        }
        // what the sluice is fed by is behind the seep: 509 and 508 less 10, 510 less 10, 51 and 50 less 1
        int[][] sizeWaterAndFed = {
            {10, 4, 0}, {10, 5, 1}, {11, 4, 0}, {11, 5, 1}, {99, 48, 0}, {99, 49, 1}, {100, 50, 0}, {100, 51, 1},
            {101, 50, 0}, {101, 51, 1}, {999, 508, 0}, {999, 509, 1}, {1000, 509, 0}, {1000, 510, 1},
        };
        for (int[] one : sizeWaterAndFed) {
            TankChain x = oneTank(0, one[0], 500);
            x.field(0, 1, 1, 0, false);
            x.field(0, 0, 1, 0, false);
            Due.take(x, "near 0;");
            x.open(0, 20);
            x.water(0, one[1]);
            x.day(0);
            Due.dueRow("got of " + one[1] + " of " + one[0], Due.got(x, 2), one[2], 1);
        }
        // half of SIZE, not of ROOM, and not of what is mended
        TankChain y = siltedBy(100, 100);
        Due.due("silt", y.told(0, 5), 2);
        y.water(0, 49);
        Due.due("bad year at 49 of 100, 98 of them room", y.told(0, 11), 1);
        y.water(0, 50);
        Due.due("none at 50", y.told(0, 11), 0);
    }

    private static void givenByOpeningAndHold() {
        int[][] waterOpeningHoldAndGiven = {
            {10, 9, 0, 9}, {10, 10, 0, 10}, {10, 11, 0, 10}, {10, 0, 0, 0}, {0, 20, 0, 0}, {1, 20, 0, 1},
            {40, 19, 0, 19}, {40, 20, 0, 20}, {40, 20, 19, 20}, {40, 20, 20, 20}, {40, 20, 21, 19}, {40, 20, 39, 1},
            {40, 20, 40, 0}, {40, 20, 41, 0}, {40, 20, 100, 0}, {40, 1, 39, 1}, {40, 1, 40, 0}, {40, 1, 38, 1},
        };
        for (int[] one : waterOpeningHoldAndGiven) {
            TankChain x = new TankChain(2);
            for (int f = 0; f < 25; f++) {
                x.field(0, 0, 1, 0, false);
            }
            Due.take(x, "hold " + one[2] + ";");
            x.water(0, one[0]);
            x.open(0, one[1]);
            x.day(0);
            String given = "given of " + one[0] + ", opening " + one[1] + ", hold " + one[2];
            Due.due(given, x.told(0, 8), one[3]);
            Due.due(given + ", what stays", x.told(0, 3), one[0] - one[3]);
        }
    }

    /** HOLD is reckoned of SIZE where silt or a breach leaves less room. */
    private static void holdOfAllOfSize() {
        for (int more = 0; more <= 1; more++) {
            TankChain x = siltedBy(100, 100);
            x.field(0, 0, 1, 0, false);
            x.open(0, 20);
            Due.take(x, "hold 40;");
            Due.due("room over silt", x.told(0, 7), 98);
            x.water(0, 40 + more);
            x.day(0);
            Due.due("given of " + (40 + more) + ", 40 of 100 held over silt", x.told(0, 8), more);
            TankChain y = oneTank(1, 100, 0);
            y.field(0, 0, 1, 0, false);
            y.water(0, 100);
            y.day(5);
            y.open(0, 20);
            Due.take(y, "hold 40;");
            Due.due("room of one breached", y.told(0, 7), 0);
            y.day(40 + more);
            Due.due("given of " + (40 + more) + ", 40 of 100 held by one breached", y.told(0, 8), more);
            Due.due("what it held goes down", y.told(0, 9), 40);
        }
    }

    private static void areaThatIsJustLeft() {
        int[][] openingAndGot = {
            {0, 0, 0, 0}, {1, 0, 0, 1}, {5, 0, 0, 1}, {6, 0, 6, 0}, {7, 7, 0, 0}, {8, 7, 0, 1}, {12, 7, 0, 1}, {13, 7, 6, 0},
            {14, 7, 6, 1}, {15, 7, 6, 1}, {20, 7, 6, 1},
        };
        for (int[] one : openingAndGot) {
            TankChain x = new TankChain(2);
            x.field(0, 0, 7, 0, false);
            x.field(0, 0, 6, 0, false);
            x.field(0, 0, 1, 0, false);
            x.water(0, 49);
            x.open(0, one[0]);
            x.day(0);
            Due.dueRow("got of " + one[0], Due.got(x, 3), one[1], one[2], one[3]);
            Due.due("what they didn't get stays", x.told(0, 3), 49 - one[1] - one[2] - one[3]);
            Due.due("given and taken", x.told(0, 8), one[1] + one[2] + one[3]);
        }
        TankChain x = new TankChain(2);
        x.field(0, 0, 20, 0, false);
        x.water(0, 19);
        x.open(0, 20);
        x.day(0);
        Due.due("got of 19 by an area of 20", x.fieldOf(0, 7), 0);
        x.water(0, 20);
        x.day(0);
        Due.due("got of 20 by an area of 20", x.fieldOf(0, 7), 20);
    }

    private static TankChain fair(int... areas) {
        TankChain x = new TankChain(2);
        for (int area : areas) {
            x.field(0, 0, area, 0, false);
        }
        Due.take(x, "fair;");
        return x;
    }

    private static void sharesAre(int[] areas, int given, int... want) {
        TankChain x = fair(areas);
        x.water(0, given);
        x.open(0, 20);
        x.day(0);
        Due.dueRow("got of " + given + " by " + java.util.Arrays.toString(areas), Due.got(x, areas.length), want);
        TankChain y = fair(areas);
        y.water(0, 49);
        y.open(0, given);
        y.day(0);
        Due.dueRow("got of an opening of " + given, Due.got(y, areas.length), want);
    }

    private static void sharesThatDontDivide() {
        int[] odd = {7, 11, 13};
        sharesAre(odd, 0, 0, 0, 0);
        // by 31: remainders 7, 11, 13
        sharesAre(odd, 1, 0, 0, 1);
        sharesAre(odd, 2, 0, 1, 1);
        // 70, 110, 130: 2 and 8, 3 and 17, 4 and 6
        sharesAre(odd, 10, 2, 4, 4);
        // 133, 209, 247: 4 and 9, 6 and 23, 7 and 30
        sharesAre(odd, 19, 4, 7, 8);
        // 140, 220, 260: 4 and 16, 7 and 3, 8 and 12
        sharesAre(odd, 20, 5, 7, 8);
        // 19 and 1, nothing and 20: the little one is fed by its remainder
        sharesAre(new int[] {20, 1}, 20, 19, 1);
        sharesAre(new int[] {1, 20}, 20, 1, 19);
        sharesAre(new int[] {20, 1}, 1, 1, 0);
        sharesAre(new int[] {20}, 19, 19);
        sharesAre(new int[] {20}, 1, 1);
        sharesAre(new int[] {20}, 20, 20);
        // alike remainders: the first in order
        sharesAre(new int[] {4, 4}, 1, 1, 0);
        sharesAre(new int[] {4, 4}, 7, 4, 3);
        sharesAre(new int[] {2, 2, 2}, 2, 1, 1, 0);
        sharesAre(new int[] {2, 2, 2}, 4, 2, 1, 1);
        // 12, 6, 6 by 8: 1 and 4, nothing and 6 twice
        sharesAre(new int[] {4, 2, 2}, 3, 1, 1, 1);
        // 20, 10, 10 by 8: 2 and 4, 1 and 2, 1 and 2
        sharesAre(new int[] {4, 2, 2}, 5, 3, 1, 1);
        // 4, 8, 12 by 8: nothing and 4, 1 and nothing, 1 and 4
        sharesAre(new int[] {1, 2, 3, 2}, 4, 1, 1, 1, 1);
    }

    private static void sharesAroundAllAreas() {
        int[] areas = {3, 5, 9};
        // 16 of 17: 48, 80, 144: 2 and 14, 4 and 12, 8 and 8
        sharesAre(areas, 16, 3, 5, 8);
        sharesAre(areas, 17, 3, 5, 9);
        sharesAre(areas, 18, 3, 5, 9);
        sharesAre(areas, 20, 3, 5, 9);
        TankChain x = fair(areas);
        x.water(0, 16);
        x.open(0, 20);
        x.day(0);
        Due.due("water, all given and taken", x.told(0, 3), 0);
        Due.due("given and taken", x.told(0, 8), 16);
        Due.due("days fed of 3", x.fieldOf(0, 5), 1);
        Due.due("days fed of 9 that got 8", x.fieldOf(2, 5), 0);
        Due.due("all that it got", x.fieldOf(2, 6), 8);
        x.water(0, 20);
        x.day(0);
        Due.due("water, as 3 stay", x.told(0, 3), 3);
        Due.due("days fed of 9", x.fieldOf(2, 5), 1);
        TankChain y = fair(2, 20, 20);
        Due.take(y, "fair;hold 90;");
        y.water(0, 99);
        y.open(0, 20);
        y.day(0);
        // 98 less 90 are 8: 16, 160, 160 by 42: nothing and 16, 3 and 34 twice
        Due.dueRow("got of what hold leaves", Due.got(y, 3), 0, 4, 4);
    }

    /** In a bad year those at NEAR are among those that may be fed, those one farther are not. */
    private static void sharesOfTheNearOnes() {
        for (int near = 0; near <= 9; near++) {
            TankChain x = new TankChain(2);
            x.field(0, 0, 4, 0, false);
            x.field(0, near, 5, 0, false);
            if (near < 9) {
                x.field(0, near + 1, 1, 0, false);
            }
            Due.take(x, "fair;near " + near + ";");
            int fields = x.count(2);
            x.open(0, 8);
            x.water(0, 49);
            x.day(0);
            // 32 and 40 by 9: 3 and 5, 4 and 4
            Due.dueRow("got of 8 by 9, near " + near, java.util.Arrays.copyOf(Due.got(x, fields), 2), 4, 4);
            x.open(0, 9);
            x.day(0);
            Due.dueRow("got of 9 by 9, near " + near, java.util.Arrays.copyOf(Due.got(x, fields), 2), 4, 5);
            x.open(0, 20);
            x.day(0);
            Due.due("given and taken of 20, near " + near, x.told(0, 8), 9);
            x.water(0, 99);
            x.day(0);
            Due.due("given and taken in a good year, near " + near, x.told(0, 8), near < 9 ? 10 : 9);
        }
    }

    private static void fortyAlikeShares() {
        TankChain x = new TankChain(2);
        for (int f = 0; f < 40; f++) {
            x.field(0, 9 - f % 10, 20, 0, f >= 30);
        }
        Due.take(x, "fair;");
        x.water(0, 100);
        x.open(0, 20);
        x.day(0);
        int[] want = new int[40];
        java.util.Arrays.fill(want, 0, 20, 1);
        Due.dueRow("got of 20 by forty alike", Due.got(x, 40), want);
        Due.take(x, "fair;first near;first temple;");
        x.open(0, 5);
        x.day(0);
        java.util.Arrays.fill(want, 0);
        want[39] = 1;
        want[9] = 1;
        want[19] = 1;
        want[29] = 1;
        want[38] = 1;
        Due.dueRow("got of 5 by forty alike, in order", Due.got(x, 40), want);
        Due.due("all that they got", x.told(0, 8), 5);
    }

    private static void halfThatDrains() {
        int[][] areaAndDrained = {{1, 0}, {2, 1}, {3, 1}, {4, 2}, {7, 3}, {19, 9}, {20, 10}};
        for (int[] one : areaAndDrained) {
            TankChain x = new TankChain(2);
            x.field(0, 0, one[0], 0, false);
            x.field(1, 0, one[0], 0, false);
            x.water(0, 40);
            x.open(0, 20);
            x.day(0);
            Due.due("drained of " + one[0], x.told(1, 3), one[1]);
            Due.due("kept of " + one[0], x.count(6), one[0] - one[1]);
            Due.due("out", x.count(4), 0);
            x.open(0, 0);
            x.water(1, 40);
            x.open(1, 20);
            x.day(0);
            Due.due("out, drained of " + one[0], x.count(4), one[1]);
            Due.due("kept of twice " + one[0], x.count(6), 2 * (one[0] - one[1]));
            Due.due("spill of it", x.told(1, 9), 0);
        }
        // half of what two fields got together, not of each
        TankChain y = new TankChain(2);
        y.field(0, 0, 3, 0, false);
        y.field(0, 0, 5, 0, false);
        y.water(0, 40);
        y.open(0, 8);
        y.day(0);
        Due.due("drained of 3 and 5", y.told(1, 3), 4);
    }

    private static void roomJustFull() {
        int[][] waterRainAndSpill = {{9, 1, 0}, {10, 0, 0}, {10, 1, 1}, {9, 2, 1}, {0, 10, 0}, {0, 11, 1}, {0, 12, 2}};
        for (int[] one : waterRainAndSpill) {
            TankChain x = oneTank(1, 10, 2);
            x.water(0, one[0]);
            x.day(one[1]);
            String what = one[0] + " and " + one[1] + " of 10";
            Due.due("spill of " + what, x.told(0, 9), one[2]);
            Due.due("water of " + what, x.told(0, 3), one[0] + one[1] - one[2]);
            Due.due("water below of " + what, x.told(1, 3), one[2]);
            Due.due("whole, " + what, x.told(0, 6), 0);
        }
        TankChain y = new TankChain(2);
        y.tank(1, 1, 10, 2);
        y.water(1, 10);
        y.day(1);
        Due.due("out of the last", y.count(4), 1);
        y.day(2);
        Due.due("out of the last", y.count(4), 3);
        Due.due("water of the last", y.told(1, 3), 10);
    }

    /** Catch, size, bank, water and rain, and what spills: as much as the bank or one more. */
    private static void bankJustHolds() {
        int[][] cases = {
            {1, 10, 0, 10, 0, 0}, {1, 10, 0, 10, 1, 11}, {1, 10, 1, 10, 1, 1}, {1, 10, 1, 10, 2, 12},
            {20, 10, 50, 1, 3, 50}, {20, 10, 50, 2, 3, 61}, {20, 11, 499, 0, 26, 499}, {20, 10, 499, 0, 26, 510},
            {20, 10, 500, 0, 26, 500}, {20, 10, 500, 1, 26, 511}, {7, 23, 30, 5, 7, 30}, {7, 23, 29, 5, 7, 53},
            {1, 1000, 19, 999, 40, 19}, {1, 1000, 18, 999, 40, 1019}, {20, 1000, 500, 530, 50, 500},
            {20, 1000, 500, 531, 50, 1501},
        };
        for (int[] c : cases) {
            TankChain x = oneTank(c[0], c[1], c[2]);
            x.water(0, c[3]);
            String what = java.util.Arrays.toString(c);
            boolean breaches = c[5] > c[2];
            Due.due("tried of " + what, x.tried(0, 1, c[4]), breaches ? 0 : c[5] == 0 ? c[3] : c[1]);
            x.day(c[4]);
            Due.due("spill of " + what, x.told(0, 9), c[5]);
            Due.due("breached, " + what, x.told(0, 6), breaches ? 1 : 0);
            Due.due("water of " + what, x.told(0, 3), breaches ? 0 : c[5] == 0 ? c[3] : c[1]);
            Due.due("day of it, " + what, x.told(0, 10), breaches ? 0 : -1);
            Due.due("breach(1), " + what, x.breach(1), breaches ? 1 : -1);
            Due.due("room, " + what, x.told(0, 7), breaches ? 0 : c[1]);
        }
        // a bank is what it was mended to, of a whole one, too
        for (int bank = 4; bank <= 5; bank++) {
            TankChain x = oneTank(1, 10, 500);
            x.mend(0, bank);
            x.water(0, 10);
            x.day(5);
            Due.due("breached, bank mended to " + bank, x.told(0, 6), bank == 4 ? 1 : 0);
            x.mend(0, bank + 1);
            x.water(0, 10);
            x.day(6);
            Due.due("breached, bank mended to " + (bank + 1), x.told(0, 6), bank == 4 ? 1 : 0);
        }
    }

    private static void bankHoldsWhatComesDown() {
        for (int more = 0; more <= 1; more++) {
            TankChain x = new TankChain(3);
            x.tank(0, 1, 10, 0);
            x.tank(1, 0, 20, 11);
            x.tank(2, 0, 12, 0);
            x.water(0, 10);
            x.water(1, 19 + more);
            x.day(1);
            // 11 run down on 19: 10 spill, no breach; on 20: 11 spill, no breach
            Due.due("tank 1 holds what runs down", x.told(1, 6), 0);
            Due.due("spill of tank 1", x.told(1, 9), 10 + more);
            Due.due("tank 2 holds 12", x.told(2, 3), 10 + more);
            TankChain y = new TankChain(3);
            y.tank(0, 1, 10, 0);
            y.tank(1, 0, 20, 10);
            y.tank(2, 0, 31, 0);
            y.water(0, 10);
            y.water(1, 19 + more);
            y.water(2, 1);
            y.day(1);
            Due.due("tank 1, bank 10", y.told(1, 6), more);
            Due.due("spill of tank 1", y.told(1, 9), more == 0 ? 10 : 31);
            Due.due("tank 2, bank 0", y.told(2, 6), more);
            Due.due("out", y.count(4), more == 0 ? 0 : 32);
            Due.dueRow("breach", new int[] {y.breach(0), y.breach(1), y.breach(2)}, 0, 1 + 2 * more, 0);
        }
    }

    /** A tank of which nothing was told: 100, and a bank of 50 that just holds 150 and not 151. */
    private static void firstSizeAndBank() {
        for (int more = 0; more <= 1; more++) {
            TankChain x = new TankChain(2);
            x.tank(0, 1, 10, 0);
            x.water(0, 4 + more);
            x.water(1, 100);
            x.day(50);
            // 53 or 54 run down: 153 or 154, less 3
            Due.due("spill", x.told(1, 9), more == 0 ? 50 : 151);
            Due.due("water", x.told(1, 3), more == 0 ? 100 : 0);
            Due.due("breached", x.told(1, 6), more);
        }
    }

    private static void breachedBreachesNoMore() {
        TankChain x = oneTank(20, 100, 0);
        x.day(6);
        Due.dueRow("told(0), breached", Due.told(x, 0), 20, 100, 0, 0, 0, 0, 1, 0, 0, 118, 0, 1);
        x.day(50);
        Due.due("all goes down", x.told(0, 9), 980);
        Due.due("the day stays", x.told(0, 10), 0);
        Due.due("breach(2) stays", x.breach(2), 0);
        Due.due("breach(1) stays", x.breach(1), 1);
        x.mend(0, 18);
        Due.due("water of one mended", x.told(0, 3), 0);
        x.day(6);
        Due.due("mended, it holds 18", x.told(0, 6), 0);
        Due.due("water", x.told(0, 3), 100);
        Due.due("spill", x.told(0, 9), 18);
        x.mend(0, 17);
        x.water(0, 0);
        x.day(6);
        Due.due("mended lower, it doesn't", x.told(0, 6), 1);
        Due.due("the day of the second", x.told(0, 10), 3);
        Due.dueRow("breach", new int[] {x.breach(0), x.breach(1), x.breach(2)}, 0, 1, 3);
        x.mend(0, 500);
        Due.due("the day stays", x.told(0, 10), 3);
    }

    private static TankChain siltedBy(int days, int size) {
        TankChain x = oneTank(0, size, 500);
        for (int i = 0; i < days; i++) {
            x.day(0);
        }
        return x;
    }

    private static void siltOfAFiftieth() {
        int[] sizes = {10, 49, 50, 51, 99, 100, 149, 150, 151, 999, 1000};
        int[] silts = {0, 0, 1, 1, 1, 2, 2, 3, 3, 19, 20};
        TankChain x = new TankChain(11);
        for (int t = 0; t < 11; t++) {
            x.tank(t, 0, sizes[t], 0);
        }
        for (int day = 1; day <= 301; day++) {
            Due.due("day", x.day(0), day);
            if (day % 100 == 99 || day % 100 < 2) {
                for (int t = 0; t < 11; t++) {
                    int due = day / 100 * silts[t];
                    Due.due("silt of " + sizes[t] + " behind day " + day, x.told(t, 5), due);
                }
            }
        }
        for (int t = 0; t < 11; t++) {
            Due.due("room of " + sizes[t], x.told(t, 7), sizes[t] - 3 * silts[t]);
            Due.due("size of " + sizes[t], x.told(t, 1), sizes[t]);
        }
    }

    private static void siltAheadOfTheDay() {
        // room is less by 2 as the water is looked at: 100 less 2 that seep is just as much, 102 less 2 spill 2
        int[][] waterAndSpill = {{99, 0}, {100, 0}};
        for (int[] one : waterAndSpill) {
            TankChain x = siltedBy(99, 100);
            Due.due("room", x.told(0, 7), 100);
            x.water(0, one[0]);
            x.day(0);
            Due.due("spill of " + one[0], x.told(0, 9), one[1]);
            Due.due("water of " + one[0], x.told(0, 3), 98);
        }
        TankChain y = siltedBy(99, 150);
        y.water(0, 150);
        y.day(0);
        Due.due("spill of 150", y.told(0, 9), 0);
        TankChain z = oneTank(1, 100, 1);
        for (int i = 0; i < 99; i++) {
            z.day(0);
        }
        z.water(0, 100);
        z.day(1);
        Due.due("spill of 101 less 2 above 98", z.told(0, 9), 1);
        Due.due("whole", z.told(0, 6), 0);
        z.water(0, 98);
        z.day(3);
        Due.due("breached by 101 less 2 above 98 and a bank of 0", breachedOnTheSiltDay(), 1);
        Due.due("spill of 101 less 2 on the next day", z.told(0, 9), 1);
        z.dredge(0, 1);
        z.water(0, 99);
        z.day(2);
        Due.due("none of 101 less 2 above 99", z.told(0, 9), 0);
    }

    private static int breachedOnTheSiltDay() {
        TankChain x = oneTank(1, 100, 0);
        for (int i = 0; i < 99; i++) {
            x.day(0);
        }
        x.water(0, 100);
        x.day(1);
        return x.told(0, 6);
    }

    private static void siltOfOneBreached() {
        TankChain x = oneTank(1, 100, 0);
        x.water(0, 100);
        x.day(5);
        Due.due("breached", x.told(0, 6), 1);
        for (int i = 1; i < 100; i++) {
            x.day(0);
        }
        Due.due("silt", x.told(0, 5), 2);
        Due.due("room", x.told(0, 7), 0);
        Due.due("water(0, 1)", x.water(0, 1), false);
        Due.due("dredge(0, 3)", x.dredge(0, 3), -1);
        Due.due("dredge(0, 1)", x.dredge(0, 1), 1);
        Due.due("room", x.told(0, 7), 0);
        x.mend(0, 0);
        Due.due("room of one mended", x.told(0, 7), 99);
        Due.due("water(0, 100)", x.water(0, 100), false);
        Due.due("water(0, 99)", x.water(0, 99), true);
        Due.due("dredge(0, 1)", x.dredge(0, 1), 0);
        Due.due("water(0, 100)", x.water(0, 100), true);
    }

    /** What is told of the latest day alone is nothing behind a day without. */
    private static void latestDayAlone() {
        TankChain x = oneTank(20, 20, 500);
        x.field(0, 0, 4, 0, false);
        x.open(0, 5);
        x.day(2);
        Due.dueRow("taken, spill and got", new int[] {x.told(0, 8), x.told(0, 9), x.fieldOf(0, 7)}, 4, 16, 4);
        x.open(0, 0);
        Due.dueRow("ahead of the next day", new int[] {x.told(0, 8), x.told(0, 9), x.fieldOf(0, 7)}, 4, 16, 4);
        x.tried(0, 1, 50);
        Due.dueRow("behind a trial", new int[] {x.told(0, 8), x.told(0, 9), x.fieldOf(0, 7)}, 4, 16, 4);
        x.day(0);
        Due.dueRow("behind a day without", new int[] {x.told(0, 8), x.told(0, 9), x.fieldOf(0, 7)}, 0, 0, 0);
        Due.dueRow("days fed and all it got", new int[] {x.fieldOf(0, 5), x.fieldOf(0, 6)}, 1, 4);
        Due.due("a field that comes later", x.field(0, 0, 1, 0, false), 1);
        Due.dueRow("it got nothing", new int[] {x.fieldOf(1, 5), x.fieldOf(1, 6), x.fieldOf(1, 7)}, 0, 0, 0);
    }

    private static void fedJustNot() {
        TankChain x = fair(10, 10);
        x.open(0, 19);
        x.water(0, 49);
        x.day(0);
        Due.dueRow("got of 19 by 20", Due.got(x, 2), 10, 9);
        Due.dueRow("days fed", new int[] {x.fieldOf(0, 5), x.fieldOf(1, 5)}, 1, 0);
        Due.due("areas fed", x.owner(0), 10);
        x.open(0, 20);
        x.day(0);
        Due.dueRow("days fed", new int[] {x.fieldOf(0, 5), x.fieldOf(1, 5)}, 2, 1);
        Due.dueRow("all they got", new int[] {x.fieldOf(0, 6), x.fieldOf(1, 6)}, 20, 19);
        Due.due("areas fed", x.owner(0), 30);
        x.open(0, 18);
        x.water(0, 49);
        x.day(0);
        Due.dueRow("days fed", new int[] {x.fieldOf(0, 5), x.fieldOf(1, 5)}, 2, 1);
        Due.dueRow("all they got", new int[] {x.fieldOf(0, 6), x.fieldOf(1, 6)}, 29, 28);
    }

    private static void ownersApart() {
        TankChain x = new TankChain(2);
        for (int owner = 0; owner < 10; owner++) {
            x.field(owner % 2, 0, 1 + owner % 2, owner, false);
        }
        x.open(0, 20);
        x.open(1, 20);
        x.water(0, 49);
        x.water(1, 49);
        x.day(0);
        x.day(0);
        for (int owner = 0; owner < 10; owner++) {
            Due.due("owner(" + owner + ")", x.owner(owner), 2 * (1 + owner % 2));
        }
        Due.due("owner(-1)", x.owner(-1), -1);
        Due.due("owner(10)", x.owner(10), -1);
    }

    private static void breachesOfADay() {
        TankChain x = new TankChain(11);
        for (int t = 0; t < 11; t++) {
            x.tank(t, 1, 10, 0);
            x.water(t, 10);
        }
        x.tank(0, 0, 10, 0);
        x.day(0);
        Due.dueRow("breach, none", new int[] {x.breach(0), x.breach(1), x.breach(2)}, -1, -1, -1);
        x.day(1);
        Due.dueRow("breach of ten", new int[] {x.breach(0), x.breach(1), x.breach(2)}, 1, 10, 1);
        Due.due("the first is whole", x.told(0, 6), 0);
        // of the tanks from 5 on 1 seeps of 55, 65, .. and 2 of the last's 105
        Due.due("out", x.count(4), 10 * 11 - 5 - 2);
        x.mend(10, 0);
        x.water(10, 10);
        x.day(0);
        Due.dueRow("breach, none on the latest day", new int[] {x.breach(0), x.breach(1), x.breach(2)}, 1, 10, 1);
        x.day(1);
        Due.dueRow("breach of the last", new int[] {x.breach(0), x.breach(1), x.breach(2)}, 10, 1, 3);
        Due.due("told(10, 10)", x.told(10, 10), 3);
        Due.due("told(9, 10)", x.told(9, 10), 1);
        Due.due("told(0, 10)", x.told(0, 10), -1);
    }

    private static void triedAcrossASiltDay() {
        TankChain x = oneTank(20, 100, 500);
        for (int i = 0; i < 98; i++) {
            x.day(0);
        }
        // each day's water is up to the room; in a trial that is all of the size
        Due.due("tried one day", x.tried(0, 1, 10), 100);
        Due.due("tried two days", x.tried(0, 2, 10), 100);
        Due.due("tried ten days", x.tried(0, 10, 10), 100);
        Due.due("lost, ten days", x.lost(0, 1, 10, 10), 0);
        Due.due("silt", x.told(0, 5), 0);
        x.day(10);
        Due.due("water behind day 99", x.told(0, 3), 100);
        x.day(10);
        Due.due("water behind day 100", x.told(0, 3), 98);
        Due.due("tried with the silt there is", x.tried(0, 10, 10), 98);
        Due.due("the day", x.count(0), 100);
    }

    private static void triedCarriesABreach() {
        TankChain x = oneTank(1, 10, 0);
        x.water(0, 10);
        // a breach on the first day, so that the next days' rain runs down
        Due.due("tried one day", x.tried(0, 1, 1), 0);
        Due.due("tried two days", x.tried(0, 2, 1), 0);
        Due.due("tried ten days", x.tried(0, 10, 1), 0);
        Due.due("tried one day, below", x.tried(1, 1, 1), 11);
        Due.due("tried ten days, below", x.tried(1, 10, 1), 20);
        Due.due("still whole", x.told(0, 6), 0);
        Due.due("no day of it", x.told(0, 10), -1);
        Due.due("breach(0)", x.breach(0), -1);
        Due.due("water", x.told(0, 3), 10);
        // and one that was breached stays so
        x.day(1);
        Due.due("tried of one breached", x.tried(0, 1, 50), 0);
        x.mend(0, 0);
        Due.due("tried of one mended", x.tried(0, 1, 10), 10);
    }

    private static void lostToOneBelow() {
        for (int area = 1; area <= 3; area++) {
            TankChain x = new TankChain(4);
            x.field(1, 0, area, 0, false);
            x.open(1, 20);
            x.water(1, 49);
            Due.due("lost(1, 2, 1, 0) of " + area, x.lost(1, 2, 1, 0), -(area / 2));
            Due.due("lost(1, 3, 1, 0) of " + area, x.lost(1, 3, 1, 0), 0);
            Due.due("lost(0, 2, 1, 0) of " + area, x.lost(0, 2, 1, 0), 0);
            Due.due("lost(2, 3, 10, 0) of " + area, x.lost(2, 3, 10, 0), 0);
            Due.due("lost(1, 2, 10, 0) of " + area, x.lost(1, 2, 10, 0), -(area / 2) * 10);
            x.open(1, area - 1);
            Due.due("lost(1, 2, 1, 0), opening below the area", x.lost(1, 2, 1, 0), 0);
        }
    }

    /** Each of the openings 0, 5, 10, 15 and 20 is the least by which one AREA is fed, at each of three tanks. */
    private static void openingsOfMost() {
        for (int area = 1; area <= 20; area++) {
            int least = (area + 4) / 5 * 5;
            for (int t = 0; t < 3; t++) {
                TankChain x = new TankChain(4);
                x.field(t, 0, area, 0, false);
                x.water(t, 49);
                x.open(t, 3);
                x.open(3, 20);
                int[] row = new int[4];
                for (int what = 0; what < 4; what++) {
                    row[what] = x.most(0, 3, 1, 0, what);
                }
                int[] want = {area, 0, 0, 0};
                want[t + 1] = least;
                Due.dueRow("most of an area of " + area + " at tank " + t, row, want);
                Due.due("most of that tank alone", x.most(t, 1, 1, 0, 1), least);
                Due.due("opening, as it was", x.told(t, 4), 3);
            }
        }
        TankChain y = new TankChain(2);
        y.field(0, 0, 1, 0, false);
        Due.dueRow("most of nothing", new int[] {y.most(0, 2, 1, 0, 0), y.most(0, 2, 1, 0, 1), y.most(0, 2, 1, 0, 2)},
            0, 0, 0);
    }

    private static int[] mostOf(TankChain x, int k, int m, int d, int rain) {
        int[] row = new int[m + 1];
        for (int what = 0; what <= m; what++) {
            row[what] = x.most(k, m, d, rain, what);
        }
        return row;
    }

    /** Three tanks of 10 with a field of 10 each; the first alone has a catch, of 1. */
    private static TankChain threePonds(int water0, int water1) {
        TankChain x = new TankChain(3);
        for (int t = 0; t < 3; t++) {
            x.tank(t, t == 0 ? 1 : 0, 10, 500);
            x.field(t, 0, 10, 0, false);
        }
        x.water(0, water0);
        x.water(1, water1);
        return x;
    }

    /** Where the same is fed in several ways: the least opening of the first tank, then of the next. */
    private static void mostOfAlikes() {
        TankChain x = threePonds(10, 10);
        Due.dueRow("two ponds for three fields", mostOf(x, 0, 3, 1, 0), 20, 10, 10, 0);
        // the rain spills from tank 0 if that is shut, and feeds one of the fields below; two are the most
        Due.dueRow("two ponds and the rain of a third", mostOf(x, 0, 3, 1, 10), 20, 10, 10, 0);
        Due.dueRow("from tank 1 on, tank 0 shut", mostOf(x, 1, 2, 1, 0), 10, 10, 0);
        Due.dueRow("from tank 1 on, with its rain", mostOf(x, 1, 2, 1, 10), 10, 0, 10);
        x.open(0, 10);
        Due.dueRow("from tank 1 on, tank 0 open", mostOf(x, 1, 2, 1, 0), 20, 10, 0);
        x.open(2, 20);
        Due.dueRow("the last open", mostOf(x, 0, 2, 1, 10), 20, 10, 10);
        TankChain y = threePonds(10, 0);
        // either tank 0's field is fed by its own, or tank 1's by what spills: the first shut is the less
        Due.dueRow("one pond and the rain of another", mostOf(y, 0, 2, 1, 10), 10, 0, 10);
        Due.dueRow("one pond", mostOf(y, 0, 3, 1, 0), 10, 10, 0, 0);
        TankChain z = threePonds(10, 10);
        z.tank(1, 0, 10, 0);
        // tank 1, if it's shut, runs down with its 10 and the 5 that drain: the last's field is fed in place of its own
        Due.dueRow("a weak bank", mostOf(z, 0, 3, 1, 10), 20, 10, 0, 10);
        z.open(0, 0);
        Due.dueRow("a weak bank, tank 0 shut", mostOf(z, 1, 2, 1, 10), 10, 0, 10);
        Due.due("still whole", z.told(1, 6), 0);
    }

    /** What a field gets short of its AREA isn't fed, so it doesn't count. */
    private static void mostOfFairShares() {
        TankChain x = fair(10, 10);
        x.water(0, 19);
        Due.dueRow("most of 19 by 20, fair", mostOf(x, 0, 1, 1, 0), 10, 20);
        x.water(0, 18);
        Due.dueRow("most of 18 by 20, fair", mostOf(x, 0, 1, 1, 0), 0, 0);
        x.water(0, 20);
        Due.dueRow("most of 20 by 20, fair", mostOf(x, 0, 1, 1, 0), 20, 20);
        Due.dueRow("most of 20 by 20, fair, two days", mostOf(x, 0, 1, 2, 0), 20, 20);
    }

    private static void mostOverDays() {
        TankChain x = new TankChain(2);
        x.field(0, 0, 10, 0, false);
        x.water(0, 39);
        for (int d = 1; d <= 10; d++) {
            Due.dueRow("most(0, 1, " + d + ", 0)", mostOf(x, 0, 1, d, 0), 10 * Math.min(3, d), 10);
        }
        x.water(0, 40);
        Due.dueRow("most(0, 1, 10, 0) of 40", mostOf(x, 0, 1, 10, 0), 40, 10);
        x.field(1, 0, 2, 0, false);
        x.water(1, 5);
        x.open(1, 2);
        // fields of other tanks count, too; 5 drain a day
        Due.dueRow("most(0, 1, 1, 0), the next field's too", mostOf(x, 0, 1, 1, 0), 12, 10);
        Due.dueRow("most(0, 1, 10, 0)", mostOf(x, 0, 1, 10, 0), 40 + 20, 10);
        x.open(1, 1);
        Due.dueRow("most(0, 1, 10, 0), the next nearly shut", mostOf(x, 0, 1, 10, 0), 40, 10);
    }

    private static void sumsOfADay() {
        TankChain x = new TankChain(2);
        x.tank(0, 3, 60, 0);
        x.tank(1, 1, 40, 500);
        x.field(0, 0, 5, 0, false);
        x.field(1, 0, 7, 1, false);
        x.open(0, 5);
        x.open(1, 8);
        x.water(0, 60);
        x.water(1, 38);
        x.water(0, 59);
        x.day(2);
        // tank 0: 65 less 1 less 5 are 59; 2 drain. tank 1: 42 less 7 are 35; 3 drain
        Due.dueRow("water", new int[] {x.told(0, 3), x.told(1, 3), x.count(3)}, 59, 35, 94);
        Due.dueRow("out, seep, kept, rain, told",
            new int[] {x.count(4), x.count(5), x.count(6), x.count(7), x.count(9)}, 3, 1, 3 + 4, 8, 97);
        x.day(3);
        // tank 0: 68 less 1 less 5 are 62, 2 above 60: a breach. tank 1: 35 and 3 and 64 are 102 less 2 less 7, 53 spill
        Due.dueRow("water", new int[] {x.told(0, 3), x.told(1, 3), x.count(3)}, 0, 40, 40);
        Due.dueRow("out, seep, kept, rain, told",
            new int[] {x.count(4), x.count(5), x.count(6), x.count(7), x.count(9)}, 3 + 3 + 53, 1 + 3, 14, 20, 97);
        Due.due("water(0, 0) of one breached", x.water(0, 0), true);
        Due.due("water(1, 1)", x.water(1, 1), true);
        Due.due("told, less what was less", x.count(9), 97 - 39);
        Due.due("out ever, by days alone", x.count(4), 59);
    }

    /** What was less may be more than what was more, as rain brought it. */
    private static void toldBelowNothing() {
        TankChain x = oneTank(1, 100, 500);
        x.day(1);
        Due.due("water(0, 0) of 1", x.water(0, 0), true);
        Due.due("told, 1 less", x.count(9), -1);
        x.day(40);
        Due.due("water(0, 40) of 40", x.water(0, 40), true);
        Due.due("told, as much", x.count(9), -1);
        x.water(0, 39);
        Due.due("told, 1 less", x.count(9), -2);
        x.water(0, 42);
        Due.due("told, 3 more", x.count(9), 1);
        Due.due("rain, less what was told less, is the water", x.count(7) + x.count(9), x.count(3));
    }

    /** As much as can come in 512 calls: no sum turns over. */
    private static void greatestSums() {
        TankChain x = new TankChain(11);
        for (int t = 0; t < 11; t++) {
            x.tank(t, 20, 1000, 500);
        }
        int came = 0;
        for (int i = 0; i < 450; i++) {
            x.day(50);
            came += 11 * 1000;
            Due.due("rain", x.count(7), came);
        }
        Due.due("out, seep and water are the rain", x.count(4) + x.count(5) + x.count(3), came);
        Due.due("rain", came, 4950000);
    }
}
