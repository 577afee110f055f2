/** Promises 8 to 10: the tape, the custom's text, and where its fault stands. */
public final class CustomTextTest {
    public static void main(String[] args) {
        tapeGrowsByTwenty();
        bytesComeHighestFirst();
        customEmptiesTheTape();
        textsThatAreOne();
        textsThatAreNone();
        textEndsAsTold();
        mostStatements();
        faultIsOfTheLatest();
        faultyCustomLeavesWhatWas();
        customTakesThePlaceOfWhatWas();
        Due.close();
    }

    private static void tapeGrowsByTwenty() {
        TankChain x = new TankChain(2);
        Due.due("tape of a new object", x.count(8), 0);
        for (int i = 1; i <= 15; i++) {
            Due.due("feed " + i, x.feed(0, 0, 0, 0, 0), 20 * i);
        }
        Due.due("feed 16", x.feed(0, 0, 0, 0, 0), -1);
        Due.due("tape", x.count(8), 300);
    }

    private static void bytesComeHighestFirst() {
        TankChain x = new TankChain(2);
        // "fair" ";\n  " "fair" ";   " "    "
        x.feed(0x66616972, 0x3B0A2020, 0x66616972, 0x3B202020, 0x20202020);
        Due.due("custom(20)", x.custom(20), 2);
        x.feed(0x66616972, 0x3BFF2020, 0x66616972, 0x3B202020, 0x20202020);
        Due.due("custom(20) with a byte of 255", x.custom(20), -1);
        Due.due("its fault", x.fault(), 5);
        x.feed(0x20202020, 0x20202020, 0x20202020, 0x20202020, 0x20202066);
        x.feed(0x6169723B, 0x20202020, 0x20202020, 0x20202020, 0x20202041);
        Due.due("custom(39) over two feeds", x.custom(39), 1);
        x.feed(0x20202020, 0x20202020, 0x20202020, 0x20202020, 0x20202041);
        Due.due("custom(20) with A last", x.custom(20), -1);
        Due.due("its fault", x.fault(), 19);
    }

    private static void customEmptiesTheTape() {
        TankChain x = new TankChain(2);
        Due.due("custom(1) of an empty tape", x.custom(1), -2);
        Due.due("custom(0) of an empty tape", x.custom(0), 0);
        Due.put(x, "fair;");
        Due.due("custom(21)", x.custom(21), -2);
        Due.due("custom(-1)", x.custom(-1), -2);
        Due.due("custom(least)", x.custom(Integer.MIN_VALUE), -2);
        Due.due("custom(greatest)", x.custom(Integer.MAX_VALUE), -2);
        Due.due("tape", x.count(8), 20);
        Due.due("custom(5)", x.custom(5), 1);
        Due.due("tape behind a custom", x.count(8), 0);
        Due.put(x, "x");
        Due.due("custom(1)", x.custom(1), -1);
        Due.due("tape behind a fault", x.count(8), 0);
        Due.put(x, "fair;");
        Due.due("custom(0)", x.custom(0), 0);
        Due.due("tape behind none of it", x.count(8), 0);
    }

    private static void one(String text, int statements) {
        TankChain x = new TankChain(2);
        Due.due("custom \"" + text + "\"", Due.take(x, text), statements);
        Due.due("fault of \"" + text + "\"", x.fault(), -1);
    }

    private static void none(String text, int fault) {
        TankChain x = new TankChain(2);
        Due.due("custom \"" + text + "\"", Due.take(x, text), -1);
        Due.due("fault of \"" + text + "\"", x.fault(), fault);
    }

    private static void textsThatAreOne() {
        one("", 0);
        one("  \n ", 0);
        one("fair;", 1);
        one("\nfair\n;\n", 1);
        one("first temple;first small;first near;", 3);
        one("first near;near 4;hold 10;fair;", 4);
        one("near5;hold10;", 2);
        one("near 0;near 999;", 2);
        one("hold 000;hold 007;hold 999;", 3);
        one("fair;fair;fair;", 3);
    }

    private static void textsThatAreNone() {
        none("fast;", 0);
        none("fairs;", 0);
        none("fai", 0);
        none("gair;", 0);
        none("fairz;", 0);
        none("zfair;", 0);
        none("afair;", 0);
        none("fair", 4);
        none("fair  ", 6);
        none(" fair ", 6);
        none("fair fair;", 5);
        none(";", 0);
        none("fair;;", 5);
        none("5;", 0);
        none("first", 5);
        none("first ", 6);
        none("firsttemple;", 0);
        none("first temple", 12);
        none("first high;", 6);
        none("first fair;", 6);
        none("first 3;", 6);
        none("first;", 5);
        none("first temple small;", 13);
        none("temple;", 0);
        none("small;", 0);
        none("near;", 4);
        none("near", 4);
        none("near near;", 5);
        none("near 5", 6);
        none("near 5 6;", 7);
        none("near 1234;", 5);
        none("near 0001;", 5);
        none("near -1;", 5);
        none("near 12a;", 7);
        none("hold;", 4);
        none("hold 1000;", 5);
        none("hold 5 ", 7);
        none("hold x;", 5);
        none("fair;Fair;", 5);
        none("Fair;", 0);
        none("fAir;", 0);
        none("fa ir;", 0);
        none("fair\t;", 4);
        none("\tfair;", 0);
        none("fair\r\n;", 4);
        none("fair,", 4);
        none("fair;\u0000", 5);
        none("fair;`", 5);
        none("fair;{", 5);
        none("near /;", 5);
        none("near :;", 5);
        none("fair;\u00e1", 5);
        none("fair\u00e6;", 4);
        none("\u00e6", 0);
        // a byte of 160 and one of 138 are no blanks, one of 187 is no ";"
        none("\u00a0fair;", 0);
        none("\u008afair;", 0);
        none("fair\u00bb", 4);
    }

    private static void textEndsAsTold() {
        TankChain x = new TankChain(2);
        Due.put(x, "fairs;");
        Due.due("custom(4) of fairs;", x.custom(4), -1);
        Due.due("its fault", x.fault(), 4);
        Due.put(x, "near 123;");
        Due.due("custom(7) of near 123;", x.custom(7), -1);
        Due.due("its fault", x.fault(), 7);
        Due.put(x, "near 1234;");
        Due.due("custom(8) of near 1234;", x.custom(8), -1);
        Due.due("its fault", x.fault(), 8);
        Due.put(x, "fair;fair");
        Due.due("custom(5) of fair;fair", x.custom(5), 1);
    }

    private static void mostStatements() {
        String ten = "fair;fair;fair;fair;fair;fair;fair;fair;fair;fair;";
        one(ten, 10);
        one(ten + " \n ", 10);
        none(ten + "fair;", 50);
        none(ten + "  fair;", 52);
        none(ten + " x", 51);
        none(ten + ";", 50);
        none(ten + "A", 50);
        none("fair;fair;fair;fair;fair;fair;fair;fair;fair;first temple", 57);
        one("first near;first near;first near;first near;first near;first near;first near;first near;"
            + "first near;first near;", 10);
    }

    private static void faultIsOfTheLatest() {
        TankChain x = new TankChain(2);
        Due.due("fault of a new object", x.fault(), -1);
        Due.take(x, "fair");
        Due.due("fault", x.fault(), 4);
        x.custom(1);
        Due.due("fault behind a -2", x.fault(), 4);
        Due.take(x, "near x");
        Due.due("fault of the next", x.fault(), 5);
        x.custom(0);
        Due.due("fault behind one without", x.fault(), -1);
    }

    private static TankChain threeFields() {
        TankChain x = new TankChain(2);
        x.field(0, 3, 5, 0, false);
        x.field(0, 1, 9, 0, false);
        x.field(0, 2, 2, 0, true);
        return x;
    }

    private static void faultyCustomLeavesWhatWas() {
        TankChain x = threeFields();
        Due.take(x, "first near; near 2; hold 50;");
        Due.dueRow("order", Due.ordered(x, 0, 3), 1, 2, 0);
        Due.take(x, "fair; first small; near 9; hold 0; first");
        Due.dueRow("order behind a fault", Due.ordered(x, 0, 3), 1, 2, 0);
        x.open(0, 20);
        x.water(0, 51);
        x.day(0);
        Due.due("given, hold 50 in force", x.told(0, 8), 0);
        x.water(0, 66);
        x.day(0);
        Due.dueRow("got, not fair", Due.got(x, 3), 0, 9, 2);
        x.field(0, 0, 20, 0, false);
        Due.dueRow("order of a field told behind a fault", Due.ordered(x, 0, 5), 3, 1, 2, 0, -1);
    }

    private static void customTakesThePlaceOfWhatWas() {
        TankChain x = threeFields();
        Due.take(x, "first near; near 0; hold 50; fair;");
        Due.due("the next, of nothing", Due.take(x, ""), 0);
        Due.dueRow("order", Due.ordered(x, 0, 3), 0, 1, 2);
        x.open(0, 10);
        x.water(0, 20);
        x.day(0);
        Due.dueRow("got with no near, hold and fair", Due.got(x, 3), 5, 0, 2);
        x.water(0, 5);
        x.day(0);
        Due.dueRow("got of all there is", Due.got(x, 3), 5, 0, 0);
    }
}
