import java.util.ArrayList;
import java.util.List;
import java.util.function.Supplier;
import java.util.function.ToLongFunction;

/** A call that is refused, or that only asks, leaves everything as it was: every later answer is as without it. */
public final class RefusedTest {
    private static final int LEAST = Integer.MIN_VALUE;
    private static final int GREATEST = Integer.MAX_VALUE;

    private record Call(String name, ToLongFunction<TankChain> of) {
    }

    private record Refused(String name, long answer, ToLongFunction<TankChain> of) {
    }

    private static final List<Refused> ALWAYS = new ArrayList<>();
    private static final List<Call> ASKING = new ArrayList<>();
    private static final List<Call> LATER = new ArrayList<>();

    public static void main(String[] args) {
        alwaysRefused();
        asking();
        later();
        everywhere("new", () -> new TankChain(2));
        everywhere("told", RefusedTest::toldOf);
        everywhere("behind days", RefusedTest::behindDays);
        everywhere("breached", RefusedTest::breached);
        everywhere("silted", RefusedTest::silted);
        everywhere("full", RefusedTest::full);
        refusedByTheState();
        faultyCustom();
        Due.close();
    }

    private static long as(boolean answer) {
        return answer ? 1 : 0;
    }

    private static void refused(String name, long answer, ToLongFunction<TankChain> of) {
        ALWAYS.add(new Refused(name, answer, of));
    }

    private static void alwaysRefused() {
        int[] noTanks = {LEAST, -1, 11, 12, GREATEST};
        for (int t : noTanks) {
            refused("tank(" + t + ", 1, 20, 1)", 0, x -> as(x.tank(t, 1, 20, 1)));
            refused("water(" + t + ", 1)", 0, x -> as(x.water(t, 1)));
            refused("water(" + t + ", 0)", 0, x -> as(x.water(t, 0)));
            refused("field(" + t + ", 1, 2, 3, true)", -1, x -> x.field(t, 1, 2, 3, true));
            refused("open(" + t + ", 20)", 0, x -> as(x.open(t, 20)));
            refused("mend(" + t + ", 0)", 0, x -> as(x.mend(t, 0)));
            refused("dredge(" + t + ", 1)", -1, x -> x.dredge(t, 1));
            refused("told(" + t + ", 3)", -1, x -> x.told(t, 3));
            refused("order(" + t + ", 0)", -1, x -> x.order(t, 0));
            refused("tried(" + t + ", 1, 50)", -1, x -> x.tried(t, 1, 50));
            refused("lost(" + t + ", 1, 1, 50)", -100000, x -> x.lost(t, 1, 1, 50));
            refused("lost(0, " + t + ", 1, 50)", -100000, x -> x.lost(0, t, 1, 50));
            refused("most(" + t + ", 1, 1, 50, 0)", -1, x -> x.most(t, 1, 1, 50, 0));
        }
        numbersRefused();
        trialsRefused();
    }

    private static void numbersRefused() {
        int[] noNumbers = {LEAST, -2, 1001, GREATEST};
        for (int v : noNumbers) {
            refused("tank(0, " + v + ", 30, 7)", 0, x -> as(x.tank(0, v, 30, 7)));
            refused("tank(0, 5, " + v + ", 7)", 0, x -> as(x.tank(0, 5, v, 7)));
            refused("tank(0, 5, 30, " + v + ")", 0, x -> as(x.tank(0, 5, 30, v)));
            refused("tank(0, " + v + ", " + v + ", " + v + ")", 0, x -> as(x.tank(0, v, v, v)));
            refused("water(0, " + v + ")", 0, x -> as(x.water(0, v)));
            refused("field(0, " + v + ", 2, 3, true)", -1, x -> x.field(0, v, 2, 3, true));
            refused("field(0, 1, " + v + ", 3, true)", -1, x -> x.field(0, 1, v, 3, true));
            refused("field(0, 1, 2, " + v + ", true)", -1, x -> x.field(0, 1, 2, v, true));
            refused("open(0, " + v + ")", 0, x -> as(x.open(0, v)));
            refused("mend(0, " + v + ")", 0, x -> as(x.mend(0, v)));
            refused("dredge(0, " + v + ")", -1, x -> x.dredge(0, v));
            refused("custom(" + v + ")", -2, x -> x.custom(v));
            refused("day(" + v + ")", -1, x -> x.day(v));
            refused("told(0, " + v + ")", -1, x -> x.told(0, v));
            refused("fieldOf(" + v + ", 0)", -1, x -> x.fieldOf(v, 0));
            refused("fieldOf(0, " + v + ")", -1, x -> x.fieldOf(0, v));
            refused("order(0, " + v + ")", -1, x -> x.order(0, v));
            refused("owner(" + v + ")", -1, x -> x.owner(v));
            refused("breach(" + v + ")", -1, x -> x.breach(v));
            refused("count(" + v + ")", -1, x -> x.count(v));
        }
        refused("tank(0, 21, 30, 7)", 0, x -> as(x.tank(0, 21, 30, 7)));
        refused("tank(0, 5, 9, 7)", 0, x -> as(x.tank(0, 5, 9, 7)));
        refused("tank(0, 5, 30, 501)", 0, x -> as(x.tank(0, 5, 30, 501)));
        refused("field(0, 10, 2, 3, true)", -1, x -> x.field(0, 10, 2, 3, true));
        refused("field(0, 1, 0, 3, true)", -1, x -> x.field(0, 1, 0, 3, true));
        refused("field(0, 1, 21, 3, true)", -1, x -> x.field(0, 1, 21, 3, true));
        refused("field(0, 1, 2, 10, true)", -1, x -> x.field(0, 1, 2, 10, true));
        refused("open(0, 21)", 0, x -> as(x.open(0, 21)));
        refused("mend(0, 501)", 0, x -> as(x.mend(0, 501)));
        refused("day(51)", -1, x -> x.day(51));
        refused("water of the room and one", 0, x -> as(x.water(0, x.told(0, 7) + 1)));
        refused("water of the room and one", 0, x -> as(x.water(1, x.told(1, 7) + 1)));
        refused("dredge of the silt and one", -1, x -> x.dredge(0, x.told(0, 5) + 1));
        refused("dredge of none", -1, x -> x.dredge(0, 0));
        refused("custom of the tape and one", -2, x -> x.custom(x.count(8) + 1));
        refused("custom(-1)", -2, x -> x.custom(-1));
        refused("field behind the last", -1, x -> x.fieldOf(x.count(2), 7));
        refused("tank behind the last", 0, x -> as(x.mend(x.count(1), 7)));
        refused("tank behind the last", 0, x -> as(x.open(x.count(1), 7)));
        refused("tank behind the last", 0, x -> as(x.water(x.count(1), 0)));
    }

    private static void trialsRefused() {
        int[] noDays = {LEAST, -1, 0, 11, GREATEST};
        for (int d : noDays) {
            refused("tried(0, " + d + ", 50)", -1, x -> x.tried(0, d, 50));
            refused("lost(0, 1, " + d + ", 50)", -100000, x -> x.lost(0, 1, d, 50));
            refused("most(0, 1, " + d + ", 50, 0)", -1, x -> x.most(0, 1, d, 50, 0));
        }
        int[] noRains = {LEAST, -1, 51, GREATEST};
        for (int rain : noRains) {
            refused("tried(0, 1, " + rain + ")", -1, x -> x.tried(0, 1, rain));
            refused("lost(0, 1, 1, " + rain + ")", -100000, x -> x.lost(0, 1, 1, rain));
            refused("most(0, 1, 1, " + rain + ", 0)", -1, x -> x.most(0, 1, 1, rain, 0));
        }
        refused("lost(1, 1, 1, 50)", -100000, x -> x.lost(1, 1, 1, 50));
        refused("lost(1, 0, 1, 50)", -100000, x -> x.lost(1, 0, 1, 50));
        refused("most(0, 0, 1, 50, 0)", -1, x -> x.most(0, 0, 1, 50, 0));
        refused("most(0, 4, 1, 50, 0)", -1, x -> x.most(0, 4, 1, 50, 0));
        refused("most(0, 1, 1, 50, -1)", -1, x -> x.most(0, 1, 1, 50, -1));
        refused("most(0, 1, 1, 50, 2)", -1, x -> x.most(0, 1, 1, 50, 2));
        refused("most with a tank behind the last", -1, x -> x.most(x.count(1) - 1, 2, 10, 50, 0));
    }

    private static void ask(String name, ToLongFunction<TankChain> of) {
        ASKING.add(new Call(name, of));
    }

    private static void asking() {
        ask("tried(0, 1, 50)", x -> x.tried(0, 1, 50));
        ask("tried(1, 10, 0)", x -> x.tried(1, 10, 0));
        ask("tried(1, 10, 50)", x -> x.tried(1, 10, 50));
        ask("lost(0, 1, 1, 0)", x -> x.lost(0, 1, 1, 0));
        ask("lost(0, 1, 10, 50)", x -> x.lost(0, 1, 10, 50));
        ask("most(0, 1, 10, 50, 0)", x -> x.most(0, 1, 10, 50, 0));
        ask("most(0, 2, 10, 1, 2)", x -> x.most(0, 2, 10, 1, 2));
        ask("all there is to ask of the first ones", RefusedTest::askOfTheFirst);
    }

    private static long askOfTheFirst(TankChain x) {
        long sum = x.fault();
        for (int what = -1; what <= 12; what++) {
            sum += x.told(0, what) + x.fieldOf(0, what) + x.order(0, what);
            sum += x.owner(what) + x.breach(what) + x.count(what);
        }
        return sum;
    }

    private static void later(String name, ToLongFunction<TankChain> of) {
        LATER.add(new Call(name, of));
    }

    private static void later() {
        later("day(-1)", x -> x.day(-1));
        later("told(0, 8)", x -> x.told(0, 8));
        later("custom of the tape", x -> x.custom(x.count(8)));
        later("fault()", x -> x.fault());
        later("tank(1, 3, 40, 5)", x -> as(x.tank(1, 3, 40, 5)));
        later("field(1, 0, 4, 2, false)", x -> x.field(1, 0, 4, 2, false));
        later("open(1, 13)", x -> as(x.open(1, 13)));
        later("day(3)", x -> x.day(3));
        later("told(1, 3)", x -> x.told(1, 3));
        later("tape", x -> Due.put(x, "near 4; fair;"));
        later("custom(13)", x -> x.custom(13));
        later("water(1, 30)", x -> as(x.water(1, 30)));
        later("day(-1)", x -> x.day(-1));
        later("mend(0, 9)", x -> as(x.mend(0, 9)));
        later("dredge(0, 1)", x -> x.dredge(0, 1));
        later("day(0)", x -> x.day(0));
    }

    private static void everywhere(String state, Supplier<TankChain> made) {
        for (Refused one : ALWAYS) {
            leavesAll(state, made, one);
        }
        for (Call one : ASKING) {
            TankChain x = made.get();
            one.of.applyAsLong(x);
            goOnAlike(state + ", " + one.name, x, made.get());
        }
    }

    private static void leavesAll(String state, Supplier<TankChain> made, Refused one) {
        TankChain x = made.get();
        String when = state + ", " + one.name;
        Due.due(when, one.of.applyAsLong(x), one.answer);
        goOnAlike(when, x, made.get());
    }

    private static void goOnAlike(String when, TankChain x, TankChain y) {
        Look.at(x).dueAs(when, Look.at(y));
        for (Call one : LATER) {
            Due.due(when + ", then " + one.name, one.of.applyAsLong(x), one.of.applyAsLong(y));
        }
        Look.at(x).dueAs(when + ", later", Look.at(y));
    }

    private static TankChain toldOf() {
        TankChain x = new TankChain(3);
        for (int t = 0; t < 3; t++) {
            x.tank(t, 2 + t, 70 + 13 * t, 20 + t);
            x.open(t, 9 + t);
            x.water(t, 41 + 10 * t);
        }
        for (int f = 0; f < 6; f++) {
            x.field(f % 2, 9 - f, 3 + 2 * f, f % 3, f == 4);
        }
        Due.take(x, "first temple; near 7; hold 7;");
        Due.take(x, "near x;");
        Due.put(x, "first small; hold 3;");
        return x;
    }

    private static TankChain behindDays() {
        TankChain x = toldOf();
        for (int i = 0; i < 9; i++) {
            x.day(i % 3 - 1);
        }
        x.day(4);
        return x;
    }

    private static TankChain breached() {
        TankChain x = toldOf();
        x.day(50);
        x.mend(1, 500);
        x.day(2);
        return x;
    }

    private static TankChain silted() {
        TankChain x = toldOf();
        for (int i = 0; i < 100; i++) {
            x.day(i % 2);
        }
        return x;
    }

    private static TankChain full() {
        TankChain x = new TankChain(2);
        for (int f = 0; f < 40; f++) {
            x.field(f % 2, f % 10, 1 + f % 20, f % 10, f % 4 == 0);
        }
        x.open(0, 20);
        x.open(1, 20);
        for (int i = 0; i < 15; i++) {
            x.feed(0x66616972, 0x20202020, 0x20202020, 0x20202020, 0x3B202020);
        }
        return x;
    }

    /** What is refused of one state alone; the same call is taken of another. */
    private static void refusedByTheState() {
        leavesAll("full", RefusedTest::full, new Refused("field 40", -1, x -> x.field(0, 0, 1, 0, true)));
        leavesAll("full", RefusedTest::full, new Refused("feed to 320", -1, x -> x.feed(1, 2, 3, 4, 5)));
        leavesAll("full", RefusedTest::full, new Refused("custom(301)", -2, x -> x.custom(301)));
        leavesAll("behind days", RefusedTest::behindDays,
            new Refused("tank(0, 2, 70, 20)", 0, x -> as(x.tank(0, 2, 70, 20))));
        leavesAll("behind days", RefusedTest::behindDays,
            new Refused("tank(2, 20, 1000, 500)", 0, x -> as(x.tank(2, 20, 1000, 500))));
        Due.due("breached, as the state's name tells", breached().told(0, 6), 1);
        leavesAll("breached", RefusedTest::breached, new Refused("water(0, 1)", 0, x -> as(x.water(0, 1))));
        leavesAll("silted", RefusedTest::silted, new Refused("water(0, 70)", 0, x -> as(x.water(0, 70))));
        leavesAll("silted", RefusedTest::silted, new Refused("dredge(0, 2)", -1, x -> x.dredge(0, 2)));
        Due.due("taken as it may be: field 0", new TankChain(2).field(0, 0, 1, 0, true), 0);
        Due.due("taken as it may be: feed", new TankChain(2).feed(1, 2, 3, 4, 5), 20);
        Due.due("taken as it may be: custom(300)", full().custom(300), -1);
        Due.due("taken as it may be: tank", toldOf().tank(2, 20, 1000, 500), true);
        Due.due("taken as it may be: water", toldOf().water(0, 70), true);
        Due.due("taken as it may be: water", silted().water(0, 69), true);
        Due.due("taken as it may be: dredge", silted().dredge(0, 1), 0);
    }

    /** The custom stays with a fault; the fault's place and the emptied tape are those that the twin has too. */
    private static void faultyCustom() {
        String[] texts = {
            "fair", "fair,", "fair hold 50;", "hold9near 0;", "near\nfirst small;", "near", "near ;", "hold fair;",
            "fairfirst", "fair!", "hold 7000;", "hold 0000;",
        };
        int[] faults = {4, 4, 5, 5, 5, 4, 5, 5, 0, 4, 5, 5};
        for (int i = 0; i < texts.length; i++) {
            int fault = faults[i];
            TankChain x = withFaultAt(fault);
            Due.due("custom " + texts[i], Due.take(x, texts[i]), -1);
            Due.due("fault of " + texts[i], x.fault(), fault);
            goOnAlike("behind custom " + texts[i], x, withFaultAt(fault));
        }
    }

    private static TankChain withFaultAt(int place) {
        TankChain x = toldOf();
        Due.take(x, "hold 12; first near; near 6;");
        Due.take(x, " ".repeat(place) + "!");
        x.day(3);
        return x;
    }
}
