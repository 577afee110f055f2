import java.util.Random;

/** Long runs of calls, good ones and wrong ones, each answer held against the Model's. The seeds are fixed. */
public final class ModelTest {
    private static final int RUNS = 600;
    private static final int CALLS = 512;
    private static final String[] PARTS = {
        "first", "temple", "small", "near", "hold", "fair", ";", ";", "3", "45", "100", "1234", "A", "x", " ", "\n", "\t",
    };
    private static final String[] STATEMENTS = {
        "first temple;", "first small;", "first near;", "near 4;", "near 1 ;", "hold 20;", "hold\n5;", "fair;", " fair ;",
    };

    private final Random random;
    private final TankChain x;
    private final Model y;
    private final int run;
    private final int dayWeight;
    private int calls = 0;

    private ModelTest(int run) {
        this.run = run;
        random = new Random(run);
        int tanks = random.nextInt(4) == 0 ? random.nextInt(20) - 3 : 2 + random.nextInt(10);
        dayWeight = run % 3 == 0 ? 240 : 20;
        x = new TankChain(tanks);
        y = new Model(tanks);
    }

    public static void main(String[] args) {
        for (int run = 0; run < RUNS; run++) {
            new ModelTest(run).go();
        }
        Due.close();
    }

    private void go() {
        int set = random.nextInt(14);
        for (int i = 0; i < set; i++) {
            tank();
        }
        int fields = random.nextInt(45);
        for (int i = 0; i < fields; i++) {
            field();
        }
        for (int t = 0; t < 11; t++) {
            open();
            water();
        }
        while (calls < CALLS) {
            any();
        }
    }

    private void any() {
        int pick = random.nextInt(60 + dayWeight);
        if (pick >= 60) {
            day();
            return;
        }
        switch (pick / 3) {
            case 0: tank(); break;
            case 1: case 2: water(); break;
            case 3: field(); break;
            case 4: open(); break;
            case 5: mend(); break;
            case 6: dredge(); break;
            case 7: case 8: text(); break;
            case 9: case 10: case 11: told(); break;
            case 12: case 13: fieldOf(); break;
            case 14: order(); break;
            case 15: ownerAndBreach(); break;
            case 16: tried(); break;
            case 17: lost(); break;
            case 18: most(); break;
            default: count(); break;
        }
    }

    private void same(String call, long got, long want) {
        calls++;
        Due.due("run " + run + ", call " + calls + ": " + call, got, want);
    }

    private void same(String call, boolean got, boolean want) {
        same(call, got ? 1 : 0, want ? 1 : 0);
    }

    /** Mostly within; at times just outside or far away. */
    private int number(int least, int most) {
        int kind = random.nextInt(60);
        if (kind == 0) {
            return least - 1;
        }
        if (kind == 1) {
            return most + 1;
        }
        if (kind == 2) {
            return random.nextInt();
        }
        return kind < 6 ? random.nextBoolean() ? least : most : least + random.nextInt(most - least + 1);
    }

    private int aTank() {
        return number(0, y.count(1) - 1);
    }

    private void tank() {
        int t = aTank();
        int c = random.nextBoolean() ? number(0, 20) : number(0, 4);
        int s = random.nextBoolean() ? number(10, 1000) : number(10, 120);
        int b = random.nextBoolean() ? number(0, 500) : number(0, 60);
        same("tank(" + t + ", " + c + ", " + s + ", " + b + ")", x.tank(t, c, s, b), y.tank(t, c, s, b));
    }

    private void water() {
        int t = aTank();
        int room = y.told(t, 7);
        int much = random.nextInt(3) > 0 ? number(0, Math.max(1, room)) : number(0, 60);
        same("water(" + t + ", " + much + ")", x.water(t, much), y.water(t, much));
    }

    private void field() {
        int t = aTank();
        int far = number(0, 9);
        int area = random.nextBoolean() ? number(1, 20) : number(1, 5);
        int owner = number(0, 9);
        boolean temple = random.nextInt(3) == 0;
        same("field(" + t + ", " + far + ", " + area + ", " + owner + ", " + temple + ")",
            x.field(t, far, area, owner, temple), y.field(t, far, area, owner, temple));
    }

    private void open() {
        int t = aTank();
        int much = number(0, 20);
        same("open(" + t + ", " + much + ")", x.open(t, much), y.open(t, much));
    }

    private void mend() {
        int t = aTank();
        int bank = random.nextBoolean() ? number(0, 500) : number(0, 50);
        same("mend(" + t + ", " + bank + ")", x.mend(t, bank), y.mend(t, bank));
    }

    private void dredge() {
        int t = aTank();
        int much = number(1, Math.max(1, y.told(t, 5)));
        same("dredge(" + t + ", " + much + ")", x.dredge(t, much), y.dredge(t, much));
    }

    private void text() {
        StringBuilder text = new StringBuilder();
        boolean good = random.nextInt(3) > 0;
        int parts = random.nextInt(random.nextInt(8) == 0 ? 13 : 6);
        for (int i = 0; i < parts; i++) {
            text.append(good ? STATEMENTS[random.nextInt(STATEMENTS.length)] : PARTS[random.nextInt(PARTS.length)]);
            text.append(random.nextInt(3) == 0 ? " " : "");
        }
        if (text.length() > 0 && random.nextInt(6) == 0) {
            text.setCharAt(random.nextInt(text.length()), (char) random.nextInt(256));
        }
        byte[] bytes = text.toString().getBytes(java.nio.charset.StandardCharsets.ISO_8859_1);
        byte[] all = java.util.Arrays.copyOf(bytes, (bytes.length + 19) / 20 * 20);
        java.util.Arrays.fill(all, bytes.length, all.length, (byte) ' ');
        for (int at = 0; at < all.length; at += 20) {
            feed(Due.four(all, at), Due.four(all, at + 4), Due.four(all, at + 8), Due.four(all, at + 12),
                Due.four(all, at + 16));
        }
        if (random.nextInt(5) == 0) {
            return;
        }
        int n = random.nextInt(4) == 0 ? number(0, y.count(8)) : y.count(8) - all.length + bytes.length;
        same("custom(" + n + ")", x.custom(n), y.custom(n));
        same("fault()", x.fault(), y.fault());
    }

    private void feed(int a, int b, int c, int d, int e) {
        same("feed(" + a + ", " + b + ", " + c + ", " + d + ", " + e + ")", x.feed(a, b, c, d, e), y.feed(a, b, c, d, e));
    }

    private void day() {
        int most = random.nextInt(10) == 0 ? 50 : 4;
        int rain = random.nextInt(3) == 0 ? -1 : number(0, most);
        same("day(" + rain + ")", x.day(rain), y.day(rain));
        int t = random.nextInt(y.count(1));
        same("told(" + t + ", 3)", x.told(t, 3), y.told(t, 3));
        same("count(3)", x.count(3), y.count(3));
    }

    private void told() {
        int t = aTank();
        int what = number(0, 11);
        same("told(" + t + ", " + what + ")", x.told(t, what), y.told(t, what));
    }

    private void fieldOf() {
        int f = number(0, Math.max(0, y.count(2) - 1));
        int what = number(0, 7);
        same("fieldOf(" + f + ", " + what + ")", x.fieldOf(f, what), y.fieldOf(f, what));
    }

    private void order() {
        int t = aTank();
        int k = number(0, 5);
        same("order(" + t + ", " + k + ")", x.order(t, k), y.order(t, k));
    }

    private void ownerAndBreach() {
        int owner = number(0, 9);
        int what = number(0, 2);
        same("owner(" + owner + ")", x.owner(owner), y.owner(owner));
        same("breach(" + what + ")", x.breach(what), y.breach(what));
    }

    private int someRain() {
        return random.nextBoolean() ? number(0, 4) : number(0, 50);
    }

    private void tried() {
        int t = aTank();
        int d = number(1, 10);
        int rain = someRain();
        same("tried(" + t + ", " + d + ", " + rain + ")", x.tried(t, d, rain), y.tried(t, d, rain));
    }

    private void lost() {
        int k = aTank();
        int t = aTank();
        int d = number(1, 10);
        int rain = someRain();
        same("lost(" + k + ", " + t + ", " + d + ", " + rain + ")", x.lost(k, t, d, rain), y.lost(k, t, d, rain));
    }

    private void most() {
        int k = aTank();
        int m = random.nextInt(8) == 0 ? number(1, 3) : number(1, 2);
        int d = random.nextInt(8) == 0 ? number(1, 10) : number(1, 3);
        int rain = someRain();
        int what = number(0, Math.max(0, Math.min(3, m)));
        same("most(" + k + ", " + m + ", " + d + ", " + rain + ", " + what + ")", x.most(k, m, d, rain, what),
            y.most(k, m, d, rain, what));
    }

    private void count() {
        int what = number(0, 9);
        same("count(" + what + ")", x.count(what), y.count(what));
    }
}
