/** Promises 1 to 7 and 12 to 15: what is told of tanks, fields and owners, and what is refused. */
public final class CallsTest {
    private static final int LEAST = Integer.MIN_VALUE;
    private static final int GREATEST = Integer.MAX_VALUE;

    public static void main(String[] args) {
        newObject();
        tanksAreHeld();
        tankIsTold();
        tankIsRefused();
        tankUnderItsWater();
        waterIsTold();
        fieldIsTold();
        fieldIsRefused();
        fieldsUpToForty();
        openingIsTold();
        mendIsTold();
        dredgeIsTold();
        siltOfSizes();
        askedOfNone();
        orderOfFields();
        ownersAreas();
        Due.close();
    }

    private static void newObject() {
        TankChain x = new TankChain(2);
        for (int t = 0; t < 2; t++) {
            Due.dueRow("told of tank " + t, Due.told(x, t), 0, 100, 50, 0, 0, 0, 0, 100, 0, 0, -1, 1);
        }
        int[] counts = new int[10];
        for (int what = 0; what < 10; what++) {
            counts[what] = x.count(what);
        }
        Due.dueRow("counts of a new object", counts, 0, 2, 0, 0, 0, 0, 0, 0, 0, 0);
        Due.due("breach(0)", x.breach(0), -1);
        Due.due("breach(1)", x.breach(1), -1);
        Due.due("breach(2)", x.breach(2), -1);
        Due.due("first day(-1)", x.day(-1), 1);
        Due.due("rain of it", x.count(7), 0);
        Due.due("NONE", TankChain.NONE, -1);
    }

    private static void tanksAreHeld() {
        int[][] askedAndHeld = {{2, 2}, {11, 11}, {7, 7}, {1, 2}, {0, 2}, {-1, 2}, {LEAST, 2}, {12, 11}, {GREATEST, 11}};
        for (int[] pair : askedAndHeld) {
            TankChain x = new TankChain(pair[0]);
            Due.due("tanks of " + pair[0], x.count(1), pair[1]);
            Due.due("the last of " + pair[0], x.told(pair[1] - 1, 1), 100);
            Due.due("behind the last of " + pair[0], x.told(pair[1], 1), -1);
        }
    }

    private static void tankIsTold() {
        TankChain x = new TankChain(2);
        Due.due("tank(1, 20, 1000, 500)", x.tank(1, 20, 1000, 500), true);
        Due.dueRow("told(1)", Due.told(x, 1), 20, 1000, 500, 0, 0, 0, 0, 1000, 0, 0, -1, 1);
        Due.due("tank(1, 0, 10, 0)", x.tank(1, 0, 10, 0), true);
        Due.dueRow("told(1)", Due.told(x, 1), 0, 10, 0, 0, 0, 0, 0, 10, 0, 0, -1, 1);
        Due.dueRow("told(0)", Due.told(x, 0), 0, 100, 50, 0, 0, 0, 0, 100, 0, 0, -1, 1);
        Due.due("day(51)", x.day(51), -1);
        Due.due("tank(0, 3, 11, 4) as no day went by", x.tank(0, 3, 11, 4), true);
        x.day(0);
        Due.due("tank(0, 1, 12, 5) as one did", x.tank(0, 1, 12, 5), false);
        Due.dueRow("told(0)", Due.told(x, 0), 3, 11, 4, 0, 0, 0, 0, 11, 0, 0, -1, 1);
    }

    private static void tankIsRefused() {
        TankChain x = new TankChain(3);
        int[][] refused = {
            {-1, 1, 20, 1}, {3, 1, 20, 1}, {LEAST, 1, 20, 1}, {GREATEST, 1, 20, 1},
            {1, -1, 20, 1}, {1, 21, 20, 1}, {1, LEAST, 20, 1}, {1, GREATEST, 20, 1},
            {1, 1, 9, 1}, {1, 1, 1001, 1}, {1, 1, LEAST, 1}, {1, 1, GREATEST, 1},
            {1, 1, 20, -1}, {1, 1, 20, 501}, {1, 1, 20, LEAST}, {1, 1, 20, GREATEST},
        };
        for (int[] a : refused) {
            Due.due("tank" + java.util.Arrays.toString(a), x.tank(a[0], a[1], a[2], a[3]), false);
        }
        Due.dueRow("told(1)", Due.told(x, 1), 0, 100, 50, 0, 0, 0, 0, 100, 0, 0, -1, 1);
    }

    private static void tankUnderItsWater() {
        TankChain x = new TankChain(2);
        x.water(0, 100);
        Due.due("tank(0, 0, 40, 100)", x.tank(0, 0, 40, 100), true);
        Due.due("its water stays", x.told(0, 3), 100);
        Due.due("water(0, 41)", x.water(0, 41), false);
        x.day(0);
        Due.due("water behind a day", x.told(0, 3), 40);
        Due.due("spill of it", x.told(0, 9), 58);
    }

    private static void waterIsTold() {
        TankChain x = new TankChain(2);
        Due.due("water(0, 100)", x.water(0, 100), true);
        Due.due("water(0, 101)", x.water(0, 101), false);
        Due.due("water(0, -1)", x.water(0, -1), false);
        Due.due("water(0, least)", x.water(0, LEAST), false);
        Due.due("water(0, greatest)", x.water(0, GREATEST), false);
        Due.due("water(-1, 1)", x.water(-1, 1), false);
        Due.due("water(2, 1)", x.water(2, 1), false);
        Due.due("told(0, 3)", x.told(0, 3), 100);
        Due.due("told as water", x.count(9), 100);
        Due.due("water(1, 30)", x.water(1, 30), true);
        Due.due("all water", x.count(3), 130);
        Due.due("water(0, 25)", x.water(0, 25), true);
        Due.due("told as water, more less less", x.count(9), 55);
        Due.due("water(1, 0)", x.water(1, 0), true);
        Due.due("told as water", x.count(9), 25);
        Due.due("all water", x.count(3), 25);
        Due.due("rain", x.count(7), 0);
        Due.due("bad year below 50", x.told(0, 11), 1);
        x.water(0, 50);
        Due.due("none from 50 on", x.told(0, 11), 0);
        x.water(0, 49);
        Due.due("bad year at 49", x.told(0, 11), 1);
        x.tank(1, 0, 11, 0);
        x.water(1, 5);
        Due.due("none at half of 11, cut", x.told(1, 11), 0);
    }

    private static void fieldIsTold() {
        TankChain x = new TankChain(2);
        Due.due("field(1, 9, 20, 9, true)", x.field(1, 9, 20, 9, true), 0);
        Due.due("field(0, 0, 1, 0, false)", x.field(0, 0, 1, 0, false), 1);
        Due.due("fields", x.count(2), 2);
        x.day(0);
        Due.due("field(0, 1, 2, 3, false) behind a day", x.field(0, 1, 2, 3, false), 2);
        int[][] want = {{1, 9, 20, 9, 1, 0, 0, 0}, {0, 0, 1, 0, 0, 0, 0, 0}, {0, 1, 2, 3, 0, 0, 0, 0}};
        for (int f = 0; f < 3; f++) {
            int[] row = new int[8];
            for (int what = 0; what < 8; what++) {
                row[what] = x.fieldOf(f, what);
            }
            Due.dueRow("fieldOf(" + f + ")", row, want[f]);
        }
    }

    private static void fieldIsRefused() {
        TankChain x = new TankChain(2);
        int[][] refused = {
            {-1, 0, 1, 0}, {2, 0, 1, 0}, {LEAST, 0, 1, 0}, {GREATEST, 0, 1, 0},
            {0, -1, 1, 0}, {0, 10, 1, 0}, {0, LEAST, 1, 0}, {0, GREATEST, 1, 0},
            {0, 0, 0, 0}, {0, 0, 21, 0}, {0, 0, LEAST, 0}, {0, 0, GREATEST, 0},
            {0, 0, 1, -1}, {0, 0, 1, 10}, {0, 0, 1, LEAST}, {0, 0, 1, GREATEST},
        };
        for (int[] a : refused) {
            Due.due("field" + java.util.Arrays.toString(a), x.field(a[0], a[1], a[2], a[3], true), -1);
        }
        Due.due("fields", x.count(2), 0);
        Due.due("order(0, 0)", x.order(0, 0), -1);
        Due.due("fieldOf(0, 0)", x.fieldOf(0, 0), -1);
    }

    private static void fieldsUpToForty() {
        TankChain x = new TankChain(11);
        for (int i = 0; i < 40; i++) {
            Due.due("field " + i, x.field(i % 11, i % 10, 1 + i % 20, i % 10, false), i);
        }
        Due.due("field 40", x.field(0, 0, 1, 0, false), -1);
        Due.due("fields", x.count(2), 40);
        Due.due("fieldOf(39, 0)", x.fieldOf(39, 0), 6);
        Due.due("fieldOf(40, 0)", x.fieldOf(40, 0), -1);
    }

    private static void openingIsTold() {
        TankChain x = new TankChain(2);
        Due.due("open(1, 20)", x.open(1, 20), true);
        Due.due("open(1, 21)", x.open(1, 21), false);
        Due.due("open(1, -1)", x.open(1, -1), false);
        Due.due("open(2, 1)", x.open(2, 1), false);
        Due.due("open(-1, 1)", x.open(-1, 1), false);
        Due.due("open(least, least)", x.open(LEAST, LEAST), false);
        Due.due("open(greatest, greatest)", x.open(GREATEST, GREATEST), false);
        Due.due("told(1, 4)", x.told(1, 4), 20);
        Due.due("told(0, 4)", x.told(0, 4), 0);
        x.day(0);
        Due.due("open(1, 0) behind a day", x.open(1, 0), true);
        Due.due("told(1, 4)", x.told(1, 4), 0);
    }

    private static void mendIsTold() {
        TankChain x = new TankChain(2);
        x.tank(0, 20, 10, 0);
        Due.due("mend(0, 7) of a whole one", x.mend(0, 7), true);
        Due.due("bank", x.told(0, 2), 7);
        x.day(50);
        Due.dueRow("told(0), breached", Due.told(x, 0), 20, 10, 7, 0, 0, 0, 1, 0, 0, 980, 0, 1);
        Due.due("water(0, 0)", x.water(0, 0), true);
        Due.due("water(0, 1)", x.water(0, 1), false);
        Due.due("mend(0, -1)", x.mend(0, -1), false);
        Due.due("mend(0, 501)", x.mend(0, 501), false);
        Due.due("mend(-1, 5)", x.mend(-1, 5), false);
        Due.due("mend(2, 5)", x.mend(2, 5), false);
        Due.due("mend(least, least)", x.mend(LEAST, LEAST), false);
        Due.due("mend(greatest, greatest)", x.mend(GREATEST, GREATEST), false);
        Due.dueRow("told(0), still breached", Due.told(x, 0), 20, 10, 7, 0, 0, 0, 1, 0, 0, 980, 0, 1);
        Due.due("mend(0, 500)", x.mend(0, 500), true);
        Due.dueRow("told(0), mended", Due.told(x, 0), 20, 10, 500, 0, 0, 0, 0, 10, 0, 980, 0, 1);
        Due.due("mend(0, 0)", x.mend(0, 0), true);
        Due.due("bank", x.told(0, 2), 0);
    }

    private static void dredgeIsTold() {
        TankChain x = new TankChain(2);
        x.tank(0, 0, 1000, 0);
        Due.due("dredge(0, 1) of none", x.dredge(0, 1), -1);
        Due.due("dredge(0, 0) of none", x.dredge(0, 0), -1);
        for (int i = 0; i < 100; i++) {
            x.day(0);
        }
        Due.due("silt", x.told(0, 5), 20);
        Due.due("room", x.told(0, 7), 980);
        Due.due("dredge(0, 0)", x.dredge(0, 0), -1);
        Due.due("dredge(0, -1)", x.dredge(0, -1), -1);
        Due.due("dredge(0, 21)", x.dredge(0, 21), -1);
        Due.due("dredge(-1, 1)", x.dredge(-1, 1), -1);
        Due.due("dredge(2, 1)", x.dredge(2, 1), -1);
        Due.due("dredge(least, least)", x.dredge(LEAST, LEAST), -1);
        Due.due("dredge(greatest, greatest)", x.dredge(GREATEST, GREATEST), -1);
        Due.due("silt", x.told(0, 5), 20);
        Due.due("dredge(0, 1)", x.dredge(0, 1), 19);
        Due.due("room", x.told(0, 7), 981);
        Due.due("dredge(0, 19)", x.dredge(0, 19), 0);
        Due.due("room", x.told(0, 7), 1000);
        Due.due("dredge(0, 1)", x.dredge(0, 1), -1);
        Due.due("silt of the other", x.told(1, 5), 2);
    }

    private static void siltOfSizes() {
        TankChain x = new TankChain(3);
        x.tank(0, 0, 49, 0);
        x.tank(1, 0, 199, 500);
        x.tank(2, 20, 10, 0);
        x.day(1);
        Due.due("tank 2 is breached", x.told(2, 6), 1);
        for (int i = 1; i < 99; i++) {
            x.day(0);
        }
        Due.due("silt behind 99 days", x.told(1, 5), 0);
        Due.due("water(1, 199)", x.water(1, 199), true);
        Due.due("tried(1, 1, 0), silt as it is", x.tried(1, 1, 0), 196);
        x.day(0);
        Due.due("silt of 49", x.told(0, 5), 0);
        Due.due("silt of 199", x.told(1, 5), 3);
        Due.due("room", x.told(1, 7), 196);
        x.water(1, 196);
        x.day(0);
        Due.due("silt behind 101 days", x.told(1, 5), 3);
        for (int i = 101; i < 199; i++) {
            x.day(0);
        }
        x.water(1, 196);
        x.tank(1, 0, 199, 500);
        Due.due("silt behind 199 days", x.told(1, 5), 3);
        x.day(0);
        Due.due("silt behind 200 days", x.told(1, 5), 6);
        Due.due("water above room went", x.told(1, 3), 193);
        Due.due("room of one breached", x.told(2, 7), 0);
    }

    private static void askedOfNone() {
        TankChain x = new TankChain(2);
        x.field(0, 1, 2, 3, true);
        int[] strange = {LEAST, -2, -1, 12, 13, GREATEST};
        for (int what : strange) {
            Due.due("told(0, " + what + ")", x.told(0, what), -1);
            Due.due("count(" + what + ")", x.count(what), -1);
            Due.due("breach(" + what + ")", x.breach(what), -1);
            Due.due("fieldOf(0, " + what + ")", x.fieldOf(0, what), -1);
            Due.due("owner(" + what + ")", x.owner(what), -1);
            Due.due("told(" + what + ", 1)", x.told(what, 1), -1);
            Due.due("fieldOf(" + what + ", 0)", x.fieldOf(what, 0), -1);
            Due.due("order(" + what + ", 0)", x.order(what, 0), -1);
            Due.due("order(0, " + what + ")", x.order(0, what), -1);
        }
        Due.due("told(2, 1)", x.told(2, 1), -1);
        Due.due("count(10)", x.count(10), -1);
        Due.due("fieldOf(0, 8)", x.fieldOf(0, 8), -1);
        Due.due("fieldOf(1, 0)", x.fieldOf(1, 0), -1);
        Due.due("owner(10)", x.owner(10), -1);
        Due.due("order(0, 1)", x.order(0, 1), -1);
        Due.due("order(1, 0)", x.order(1, 0), -1);
        Due.due("order(2, 0)", x.order(2, 0), -1);
    }

    private static void orderOfFields() {
        TankChain x = new TankChain(2);
        x.field(1, 5, 7, 0, false);
        x.field(0, 0, 1, 0, true);
        x.field(1, 2, 9, 0, true);
        x.field(1, 5, 3, 0, false);
        x.field(1, 2, 7, 0, true);
        Due.dueRow("by numbers", Due.ordered(x, 1, 5), 0, 2, 3, 4, -1);
        Due.take(x, "first temple;");
        Due.dueRow("temple", Due.ordered(x, 1, 5), 2, 4, 0, 3, -1);
        Due.take(x, "first small;");
        Due.dueRow("small", Due.ordered(x, 1, 5), 3, 0, 4, 2, -1);
        Due.take(x, "first near;");
        Due.dueRow("near", Due.ordered(x, 1, 5), 2, 4, 0, 3, -1);
        Due.take(x, "first near; hold 5; first small;");
        Due.dueRow("near, small", Due.ordered(x, 1, 5), 4, 2, 3, 0, -1);
        Due.take(x, "first small; near 3; first near; first small;");
        Due.dueRow("small, near", Due.ordered(x, 1, 5), 3, 4, 0, 2, -1);
        Due.take(x, "first small; first temple;");
        Due.dueRow("small, temple", Due.ordered(x, 1, 5), 3, 4, 0, 2, -1);
        Due.take(x, "first temple; first small;");
        Due.dueRow("temple, small", Due.ordered(x, 1, 5), 4, 2, 3, 0, -1);
        x.field(1, 9, 8, 0, true);
        x.field(1, 9, 1, 0, false);
        x.field(1, 9, 20, 0, false);
        Due.dueRow("with fields told since", Due.ordered(x, 1, 8), 4, 5, 2, 6, 3, 0, 7, -1);
        Due.dueRow("of the other tank", Due.ordered(x, 0, 2), 1, -1);
    }

    private static void ownersAreas() {
        TankChain x = new TankChain(2);
        x.field(0, 0, 5, 9, false);
        x.field(1, 0, 4, 9, false);
        x.field(1, 0, 7, 0, false);
        x.open(0, 5);
        x.open(1, 10);
        x.water(0, 60);
        x.water(1, 60);
        x.day(0);
        Due.due("owner(9)", x.owner(9), 9);
        Due.due("owner(0), got nothing", x.owner(0), 0);
        Due.due("owner(1), of no field", x.owner(1), 0);
        x.open(1, 12);
        x.day(0);
        Due.due("owner(9)", x.owner(9), 18);
        Due.due("owner(0)", x.owner(0), 7);
        x.open(0, 0);
        x.open(1, 0);
        x.day(0);
        Due.due("owner(9), none fed", x.owner(9), 18);
    }
}
