import java.util.Arrays;

/** Promises 8 to 10 and 14: every place where a custom's text may break off or go wrong, and every byte in it. */
public final class TextBoundsTest {
    private static final int TAPE = 300;

    public static void main(String[] args) {
        textBreaksOff();
        everyTokenEverywhere();
        everyByteAlone();
        everyByteBehindAWord();
        everyByteInAWord();
        everyByteBehindANumber();
        everyByteBehindAStatement();
        digitsOfANumber();
        valuesOfNear();
        valuesOfHold();
        tapeOfThreeHundred();
        statementsUpToTen();
        oldBytesAreGone();
        feedOfEachByte();
        emptyTexts();
        orderAlike();
        Due.close();
    }

    /** What custom() answers is told by the fault: NONE and the place, or so many statements and no place. */
    private static void reads(TankChain x, String text, int statements, int fault) {
        int answer = Due.take(x, text);
        String name = "custom \"" + text.replace("\n", "\\n") + "\"";
        Due.due(name, answer, fault == -1 ? statements : -1);
        Due.due("fault of " + name, x.fault(), fault);
        Due.due("tape behind " + name, x.count(8), 0);
    }

    private static void reads(String text, int statements, int fault) {
        reads(new TankChain(2), text, statements, fault);
    }

    private static void textBreaksOff() {
        //             0         1         2
        //             0123456789012345678901234567890123456
        String text = "first temple;near 12;hold 345 ;fair;";
        int[] faults = {
            -1, 0, 0, 0, 0, 5, 6, 6, 6, 6, 6, 6, 12, -1, 13, 13, 13, 17, 18, 19, 20, -1,
            21, 21, 21, 25, 26, 27, 28, 29, 30, -1, 31, 31, 31, 35, -1,
        };
        for (int n = 0; n < faults.length; n++) {
            TankChain x = new TankChain(2);
            Due.put(x, text);
            int statements = n < 13 ? 0 : n < 21 ? 1 : n < 31 ? 2 : n < 36 ? 3 : 4;
            Due.due("custom(" + n + ") of " + text, x.custom(n), faults[n] == -1 ? statements : -1);
            Due.due("fault of custom(" + n + ") of " + text, x.fault(), faults[n]);
            Due.due("tape behind it", x.count(8), 0);
        }
    }

    /** Behind each beginning, each token: either a statement goes on with it or it's the fault. */
    private static void everyTokenEverywhere() {
        String[] tokens = {
            "first", "temple", "small", "near", "hold", "fair", ";", "7", "77", "777", "7777", "x", "Fair", "-", "fairs",
        };
        String[] beginnings = {"", "first", "first small", "near", "near 8", "hold", "hold 8", "fair", "fair;"};
        String[] goesOnWith = {
            " first near hold fair ", " temple small near ", " ; ", " 7 77 777 ", " ; ", " 7 77 777 ", " ; ", " ; ",
            " first near hold fair ",
        };
        for (int b = 0; b < beginnings.length; b++) {
            for (String token : tokens) {
                String text = beginnings[b] + " \n" + token;
                int at = beginnings[b].length() + 2;
                boolean goesOn = goesOnWith[b].contains(" " + token + " ");
                boolean ends = goesOn && token.equals(";");
                reads(text, 1, ends ? -1 : goesOn ? text.length() : at);
                reads(text + "  ", 1, ends ? -1 : goesOn ? text.length() + 2 : at);
            }
            boolean whole = beginnings[b].isEmpty() || beginnings[b].endsWith(";");
            reads(beginnings[b], beginnings[b].isEmpty() ? 0 : 1, whole ? -1 : beginnings[b].length());
        }
    }

    private static boolean isBlank(int sign) {
        return sign == 32 || sign == 10;
    }

    private static boolean isSmall(int sign) {
        return sign >= 97 && sign <= 122;
    }

    private static boolean isDigit(int sign) {
        return sign >= 48 && sign <= 57;
    }

    private static void everyByteAlone() {
        for (int sign = 0; sign < 256; sign++) {
            reads("" + (char) sign, 0, isBlank(sign) ? -1 : 0);
            reads("  " + (char) sign + "fair;", 1, isBlank(sign) ? -1 : 2);
        }
    }

    private static void everyByteBehindAWord() {
        for (int sign = 0; sign < 256; sign++) {
            boolean semicolon = sign == 59;
            reads("fair" + (char) sign + ";", 1, isBlank(sign) ? -1 : semicolon ? 5 : isSmall(sign) ? 0 : 4);
            reads("fair" + (char) sign, 1, semicolon ? -1 : isBlank(sign) ? 5 : isSmall(sign) ? 0 : 4);
            reads("near" + (char) sign + "5;", 1, isBlank(sign) || isDigit(sign) ? -1 : isSmall(sign) ? 0 : 4);
        }
    }

    private static void everyByteInAWord() {
        for (int sign = 0; sign < 256; sign++) {
            reads("fa" + (char) sign + "r;", 1, sign == 'i' ? -1 : 0);
            reads((char) sign + "old 5;", 1, sign == 'h' ? -1 : isBlank(sign) ? 1 : 0);
            reads("hol" + (char) sign + " 5;", 1, sign == 'd' ? -1 : 0);
            reads("first smal" + (char) sign + ";", 1, sign == 'l' ? -1 : 6);
        }
    }

    private static void everyByteBehindANumber() {
        for (int sign = 0; sign < 256; sign++) {
            boolean digit = isDigit(sign);
            boolean semicolon = sign == 59;
            reads("near 1" + (char) sign + ";", 1, isBlank(sign) || digit ? -1 : semicolon ? 7 : 6);
            reads("near 123" + (char) sign + ";", 1, isBlank(sign) ? -1 : digit ? 5 : semicolon ? 9 : 8);
            reads("hold " + (char) sign + ";", 1, digit ? -1 : isBlank(sign) ? 6 : 5);
        }
    }

    private static void everyByteBehindAStatement() {
        for (int sign = 0; sign < 256; sign++) {
            reads("fair;" + (char) sign, 1, isBlank(sign) ? -1 : 5);
            reads("fair;" + (char) sign + "fair;", 2, isBlank(sign) ? -1 : 5);
        }
    }

    private static void digitsOfANumber() {
        String[] words = {"near", "hold"};
        for (String word : words) {
            reads(word + " 0;", 1, -1);
            reads(word + " 9;", 1, -1);
            reads(word + " 10;", 1, -1);
            reads(word + " 99;", 1, -1);
            reads(word + " 000;", 1, -1);
            reads(word + " 100;", 1, -1);
            reads(word + " 999;", 1, -1);
            reads(word + " 0000;", 1, 5);
            reads(word + " 0009;", 1, 5);
            reads(word + " 1000;", 1, 5);
            reads(word + " 4294967297;", 1, 5);
            reads(word + " 1 0;", 1, 7);
            reads(word + " 1\n;", 1, -1);
            reads(word + " ;", 1, 5);
        }
    }

    /** One field of each FAR, an AREA of 1 each; in a bad year those up to NEAR get theirs. */
    private static void valuesOfNear() {
        for (int near = 0; near <= 999; near = near < 12 ? near + 1 : near + 47) {
            int reach = Math.min(9, near);
            nearIs("near " + near + ";", reach);
            nearIs("near " + String.format("%03d", near) + ";", reach);
            nearIs("near 999;near 0;near " + near + ";", reach);
        }
        nearIs("near 999;", 9);
        nearIs("", 9);
        nearIs("near 3;near 5;", 5);
        nearIs("near 5;near 3;", 3);
    }

    private static void nearIs(String text, int reach) {
        TankChain x = new TankChain(2);
        for (int far = 0; far < 10; far++) {
            x.field(0, far, 1, 0, false);
        }
        Due.take(x, text);
        x.open(0, 20);
        x.water(0, 49);
        x.day(0);
        int[] want = new int[10];
        Arrays.fill(want, 0, reach + 1, 1);
        Due.dueRow("got in a bad year, " + text, Due.got(x, 10), want);
        x.water(0, 51);
        x.day(0);
        Arrays.fill(want, 1);
        Due.dueRow("got in a good year, " + text, Due.got(x, 10), want);
    }

    private static void valuesOfHold() {
        holdIs("hold 0;", 100, 0);
        holdIs("", 100, 0);
        holdIs("hold 1;", 100, 1);
        holdIs("hold 1;", 99, 0);
        holdIs("hold 2;", 99, 1);
        holdIs("hold 9;", 10, 0);
        holdIs("hold 10;", 10, 1);
        holdIs("hold 99;", 10, 9);
        holdIs("hold 099;", 11, 10);
        holdIs("hold 33;", 148, 48);
        holdIs("hold 4;", 999, 39);
        holdIs("hold 4;", 1000, 40);
        holdIs("hold 100;", 10, 10);
        holdIs("hold 50;hold 7;", 100, 7);
        holdIs("hold 7;hold 50;hold 0;", 100, 0);
        TankChain x = new TankChain(2);
        x.tank(0, 20, 1000, 500);
        x.field(0, 0, 1, 0, false);
        x.open(0, 1);
        String[] all = {"hold 100;", "hold 101;", "hold 999;"};
        for (String text : all) {
            Due.take(x, text);
            x.water(0, 1000);
            x.day(0);
            Due.due("got, " + text, x.told(0, 8), 0);
        }
        // 2000 less 40 that seep, 990 held of 1000
        Due.take(x, "hold 99;");
        x.water(0, 1000);
        x.day(50);
        Due.due("got, above the hold", x.told(0, 8), 1);
    }

    /** With the held WATER there is nothing to give, with one more there is 1, with 3 more 3; nothing seeps. */
    private static void holdIs(String text, int size, int held) {
        for (int more = -1; more <= 4; more++) {
            TankChain x = new TankChain(2);
            x.tank(0, 0, size, 500);
            for (int f = 0; f < 5; f++) {
                x.field(0, 0, 1, 0, false);
            }
            Due.take(x, text);
            x.open(0, 3);
            int water = held + more;
            if (water < 0 || water > size || water > 49) {
                continue;
            }
            x.water(0, water);
            x.day(0);
            Due.due("given of " + water + " of " + size + ", " + text, x.told(0, 8), Math.max(0, Math.min(3, more)));
        }
    }

    private static void tapeOfThreeHundred() {
        String blank = " ".repeat(TAPE);
        reads(blank, 0, -1);
        reads(blank.substring(5) + "fair;", 1, -1);
        reads(blank.substring(4) + "fair", 0, TAPE);
        reads(blank.substring(1) + "x", 0, TAPE - 1);
        reads(blank.substring(1) + ";", 0, TAPE - 1);
        reads(blank.substring(8) + "near 999", 0, TAPE);
        reads("fair" + blank.substring(5) + ";", 1, -1);
        reads("fair" + blank.substring(4), 0, TAPE);
        reads("9".repeat(TAPE), 0, 0);
        reads("z".repeat(TAPE), 0, 0);
        reads("near" + "0".repeat(TAPE - 4), 0, 4);
        reads("near" + blank.substring(8) + "012;", 1, -1);
        reads("\u00ff".repeat(TAPE), 0, 0);
        reads("\u0000".repeat(TAPE), 0, 0);
        TankChain x = new TankChain(2);
        Due.put(x, blank.substring(5) + "fair;");
        Due.due("feed to 320", x.feed(0, 0, 0, 0, 0), -1);
        Due.due("custom(301)", x.custom(TAPE + 1), -2);
        Due.due("custom(299)", x.custom(TAPE - 1), -1);
        Due.due("its fault", x.fault(), TAPE - 1);
        Due.due("feed to 20", x.feed(0, 0, 0, 0, 0), 20);
        Due.due("custom(300) of 20", x.custom(TAPE), -2);
        Due.due("fault, as of before", x.fault(), TAPE - 1);
        Due.due("custom(20)", x.custom(20), -1);
        Due.due("its fault", x.fault(), 0);
    }

    private static void statementsUpToTen() {
        String[] kinds = {"fair;", "near 1;", "hold 22;", "first near;"};
        String[] eleventh = {"fair;", "fair", "f", ";", "x", "7", "\u0001", "first", "near 5"};
        for (String kind : kinds) {
            for (int many = 0; many <= 10; many++) {
                reads(kind.repeat(many), many, -1);
                reads(kind.repeat(many) + "\n ", many, -1);
            }
            String ten = kind.repeat(10);
            for (String more : eleventh) {
                reads(ten + more, 0, ten.length());
                reads(ten + " \n" + more, 0, ten.length() + 2);
            }
            String nine = kind.repeat(9);
            reads(nine + "fair;fair;", 0, nine.length() + 5);
            reads(nine + "fair fair;", 0, nine.length() + 5);
            reads(nine + "fair", 0, nine.length() + 4);
            reads(nine + "x;fair;fair;", 0, nine.length());
        }
        tenFirsts();
    }

    /** The tenth "first" still counts where the nine ahead of it are alike. */
    private static void tenFirsts() {
        TankChain x = new TankChain(2);
        x.field(0, 3, 5, 0, true);
        x.field(0, 3, 4, 0, true);
        x.field(0, 2, 9, 0, true);
        reads(x, "first temple;".repeat(9) + "first small;", 10, -1);
        Due.dueRow("order of the tenth", Due.ordered(x, 0, 4), 1, 0, 2, -1);
        reads(x, "first temple;".repeat(10) + "first small;", 10, 130);
        Due.dueRow("order, as of before", Due.ordered(x, 0, 4), 1, 0, 2, -1);
        reads(x, "first temple;".repeat(9) + "first near;", 10, -1);
        Due.dueRow("order of the tenth", Due.ordered(x, 0, 4), 2, 0, 1, -1);
    }

    /** What stood on the tape before doesn't come back behind a shorter text. */
    private static void oldBytesAreGone() {
        TankChain x = new TankChain(2);
        reads(x, "fair;fair;fair;fair;fair;fair;fair;fair;", 8, -1);
        Due.due("custom(1)", x.custom(1), -2);
        reads(x, "fair;fair", 1, 9);
        reads(x, "fai", 1, 0);
        reads(x, "fair", 1, 4);
        Due.put(x, "fair;fair;");
        Due.due("custom(0)", x.custom(0), 0);
        reads(x, "near 5", 1, 6);
        Due.put(x, "first temple; fair;");
        Due.due("custom(13)", x.custom(13), 1);
        Due.put(x, "fair;");
        Due.due("custom(20) of the next feed alone", x.custom(20), 1);
    }

    /** Each byte of the twenty is where it's told: a wrong one there is the fault. */
    private static void feedOfEachByte() {
        for (int place = 0; place < 20; place++) {
            int[] numbers = {0x20202020, 0x20202020, 0x20202020, 0x20202020, 0x20202020};
            int shift = 24 - place % 4 * 8;
            numbers[place / 4] = numbers[place / 4] & ~(255 << shift) | 0x80 << shift;
            TankChain x = new TankChain(2);
            Due.due("feed", x.feed(numbers[0], numbers[1], numbers[2], numbers[3], numbers[4]), 20);
            Due.due("feed", x.feed(numbers[4], numbers[3], numbers[2], numbers[1], numbers[0]), 40);
            Due.due("custom(" + place + ")", x.custom(place), 0);
            x.feed(0x20202020, 0x20202020, 0x20202020, 0x20202020, 0x20202020);
            x.feed(numbers[0], numbers[1], numbers[2], numbers[3], numbers[4]);
            Due.due("custom(" + (place + 21) + ")", x.custom(place + 21), -1);
            Due.due("its fault", x.fault(), place + 20);
        }
    }

    private static void emptyTexts() {
        TankChain x = new TankChain(2);
        x.field(0, 5, 9, 0, false);
        x.field(0, 4, 8, 0, true);
        reads(x, "first temple;near 0;hold 99;fair;", 4, -1);
        Due.dueRow("order", Due.ordered(x, 0, 3), 1, 0, -1);
        Due.due("custom(0) of an empty tape", x.custom(0), 0);
        Due.dueRow("order behind an empty text", Due.ordered(x, 0, 3), 0, 1, -1);
        x.open(0, 10);
        x.water(0, 20);
        x.day(0);
        Due.dueRow("got with no near, hold, fair", Due.got(x, 2), 9, 0);
        reads(x, "first temple;near 0;hold 99;fair;", 4, -1);
        Due.put(x, "fair;first near;");
        Due.due("custom(0) of a tape of 20", x.custom(0), 0);
        Due.due("fault", x.fault(), -1);
        Due.due("tape", x.count(8), 0);
        Due.dueRow("order behind an empty text", Due.ordered(x, 0, 3), 0, 1, -1);
        x.water(0, 20);
        x.day(0);
        Due.dueRow("got with no near, hold, fair", Due.got(x, 2), 9, 0);
        reads(x, "\n", 0, -1);
        reads(x, " \n \n ", 0, -1);
    }

    /** The least and the greatest AREA and FAR, the temple's and not, and numbers where all is alike. */
    private static void orderAlike() {
        TankChain x = new TankChain(2);
        int[][] fields = {{9, 20}, {0, 20}, {9, 1}, {0, 1}, {9, 20}, {0, 20}, {9, 1}, {0, 1}};
        for (int f = 0; f < 8; f++) {
            x.field(1, fields[f][0], fields[f][1], 0, f >= 4);
        }
        orderIs(x, "", 0, 1, 2, 3, 4, 5, 6, 7, -1);
        orderIs(x, "first temple;", 4, 5, 6, 7, 0, 1, 2, 3, -1);
        orderIs(x, "first small;", 2, 3, 6, 7, 0, 1, 4, 5, -1);
        orderIs(x, "first near;", 1, 3, 5, 7, 0, 2, 4, 6, -1);
        orderIs(x, "first near;first small;", 3, 7, 1, 5, 2, 6, 0, 4, -1);
        orderIs(x, "first small;first near;", 3, 7, 2, 6, 1, 5, 0, 4, -1);
        orderIs(x, "first temple;first near;first small;", 7, 5, 6, 4, 3, 1, 2, 0, -1);
        orderIs(x, "first near;first small;first temple;", 7, 3, 5, 1, 6, 2, 4, 0, -1);
        orderIs(x, "first near;first near;first temple;first near;", 5, 7, 1, 3, 4, 6, 0, 2, -1);
        Due.due("order(1, -1)", x.order(1, -1), -1);
        Due.due("order(0, 0)", x.order(0, 0), -1);
        x.field(1, 0, 1, 0, true);
        Due.dueRow("a ninth field, taken into the order", Due.ordered(x, 1, 10), 5, 7, 8, 1, 3, 4, 6, 0, 2, -1);
    }

    private static void orderIs(TankChain x, String text, int... want) {
        Due.take(x, text);
        Due.dueRow("order, " + text, Due.ordered(x, 1, want.length), want);
    }
}
