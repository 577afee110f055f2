import java.util.function.Supplier;

/** Promises 1 to 20: every argument at its least and its greatest, one below, one above, and far outside. */
public final class RangesTest {
    private static final int LEAST = Integer.MIN_VALUE;
    private static final int GREATEST = Integer.MAX_VALUE;

    private interface Call {
        long of(TankChain x, int value);
    }

    /** One argument of one call, the others being as told; answers FALSE or NONE or the like where it isn't. */
    private record Range(String name, int least, int greatest, long refusal, Supplier<TankChain> made, Call call) {
        /** What the object tells of the value then is the value itself. */
        void isToldBack(Call back) {
            for (int value : within()) {
                TankChain x = made.get();
                Due.due(name + " of " + value + " refused", call.of(x, value) == refusal, false);
                Due.due(name + " of " + value + " told back", back.of(x, value), value);
            }
            isRefusedOutside();
        }

        void answers(Call want) {
            for (int value : within()) {
                TankChain x = made.get();
                long due = want.of(x, value);
                Due.due(name + " of " + value, call.of(x, value), due);
            }
            isRefusedOutside();
        }

        private int[] within() {
            return new int[] {least, Math.min(greatest, least + 1), Math.max(least, greatest - 1), greatest};
        }

        private void isRefusedOutside() {
            int[] outside = {
                least - 1, least - 2, least - 256, least - 65536, -1000000, LEAST, LEAST + 1,
                greatest + 1, greatest + 2, greatest + 256, greatest + 65536, 1000000, GREATEST, GREATEST - 1,
            };
            TankChain x = made.get();
            Look before = Look.at(x);
            for (int value : outside) {
                Due.due(name + " of " + value, call.of(x, value), refusal);
            }
            Look.at(x).dueAs("behind refusals: " + name, before);
        }
    }

    public static void main(String[] args) {
        tanksOfANewObject();
        tank();
        water();
        waterUpToTheRoom();
        field();
        open();
        mend();
        dredge();
        feed();
        custom();
        day();
        dayUpToAThousand();
        askedOf();
        tried();
        lost();
        most();
        Due.close();
    }

    private static long as(boolean answer) {
        return answer ? 1 : 0;
    }

    /** Three tanks of a catch of 1, and two fields at the tank 1. */
    private static TankChain plain() {
        TankChain x = new TankChain(3);
        for (int t = 0; t < 3; t++) {
            x.tank(t, 1, 1000, 500);
        }
        x.field(1, 4, 6, 2, true);
        x.field(1, 3, 2, 5, false);
        x.open(1, 8);
        return x;
    }

    private static void tanksOfANewObject() {
        int[] fewer = {LEAST, LEAST + 1, -65534, -254, -2, -1, 0, 1, 2};
        for (int tanks : fewer) {
            Due.due("tanks of " + tanks, new TankChain(tanks).count(1), 2);
        }
        for (int tanks = 3; tanks < 11; tanks++) {
            Due.due("tanks of " + tanks, new TankChain(tanks).count(1), tanks);
        }
        int[] more = {11, 12, 13, 258, 65538, GREATEST - 1, GREATEST};
        for (int tanks : more) {
            Due.due("tanks of " + tanks, new TankChain(tanks).count(1), 11);
        }
        for (int tanks = 2; tanks <= 11; tanks++) {
            int last = tanks;
            new Range("open of a tank of " + tanks, 0, last - 1, 0, () -> new TankChain(last),
                (x, t) -> as(x.open(t, 20))).answers((x, t) -> 1);
        }
    }

    private static void tank() {
        new Range("tank's number", 0, 2, 0, RangesTest::plain, (x, v) -> as(x.tank(v, 2, 30, 4))).answers((x, v) -> 1);
        new Range("tank's catch", 0, 20, 0, RangesTest::plain, (x, v) -> as(x.tank(1, v, 30, 4)))
            .isToldBack((x, v) -> x.told(1, 0));
        new Range("tank's size", 10, 1000, 0, RangesTest::plain, (x, v) -> as(x.tank(1, 2, v, 4)))
            .isToldBack((x, v) -> x.told(1, 1));
        new Range("tank's size as its room", 10, 1000, 0, RangesTest::plain, (x, v) -> as(x.tank(1, 2, v, 4)))
            .isToldBack((x, v) -> x.told(1, 7));
        new Range("tank's bank", 0, 500, 0, RangesTest::plain, (x, v) -> as(x.tank(1, 2, 30, v)))
            .isToldBack((x, v) -> x.told(1, 2));
        TankChain x = plain();
        x.day(1);
        Look before = Look.at(x);
        Due.due("tank(1, 1, 1000, 500), a day went by", x.tank(1, 1, 1000, 500), false);
        Due.due("tank(0, 0, 10, 0), a day went by", x.tank(0, 0, 10, 0), false);
        Due.due("tank(2, 20, 1000, 500), a day went by", x.tank(2, 20, 1000, 500), false);
        Look.at(x).dueAs("tank() behind a day", before);
    }

    private static void water() {
        new Range("water's tank", 0, 2, 0, RangesTest::plain, (x, v) -> as(x.water(v, 10))).answers((x, v) -> 1);
        new Range("water", 0, 1000, 0, RangesTest::plain, (x, v) -> as(x.water(1, v)))
            .isToldBack((x, v) -> x.told(1, 3));
        new Range("all water", 0, 1000, 0, RangesTest::plain, (x, v) -> as(x.water(2, v)))
            .isToldBack((x, v) -> x.count(3));
        new Range("what was told as water", 0, 1000, 0, RangesTest::plain, (x, v) -> as(x.water(0, v)))
            .isToldBack((x, v) -> x.count(9));
        new Range("water, a size of 10", 0, 10, 0, () -> {
            TankChain x = plain();
            x.tank(1, 1, 10, 0);
            return x;
        }, (x, v) -> as(x.water(1, v))).isToldBack((x, v) -> x.told(1, 3));
        TankChain x = plain();
        int[] told = {0, 1, 0, 1000, 999, 999, 500, 0};
        for (int much : told) {
            Due.due("water(1, " + much + ")", x.water(1, much), true);
            Due.due("told as water, " + much, x.count(9), much);
        }
    }

    private static TankChain breached() {
        TankChain x = plain();
        x.tank(0, 20, 10, 0);
        x.day(1);
        return x;
    }

    private static TankChain silted() {
        TankChain x = plain();
        for (int i = 0; i < 100; i++) {
            x.day(0);
        }
        return x;
    }

    private static void waterUpToTheRoom() {
        new Range("water of one breached", 0, 0, 0, RangesTest::breached, (x, v) -> as(x.water(0, v)))
            .isToldBack((x, v) -> x.told(0, 3));
        new Range("water of one mended", 0, 10, 0, () -> {
            TankChain x = breached();
            x.mend(0, 0);
            return x;
        }, (x, v) -> as(x.water(0, v))).isToldBack((x, v) -> x.told(0, 3));
        new Range("water over silt of 20", 0, 980, 0, RangesTest::silted, (x, v) -> as(x.water(0, v)))
            .isToldBack((x, v) -> x.told(0, 3));
        new Range("water over silt of 13", 0, 987, 0, () -> {
            TankChain x = silted();
            x.dredge(0, 7);
            return x;
        }, (x, v) -> as(x.water(0, v))).isToldBack((x, v) -> x.told(0, 3));
    }

    private static void field() {
        new Range("field's tank", 0, 2, -1, RangesTest::plain, (x, v) -> x.field(v, 1, 2, 3, true))
            .isToldBack((x, v) -> x.fieldOf(2, 0));
        new Range("field's far", 0, 9, -1, RangesTest::plain, (x, v) -> x.field(0, v, 2, 3, true))
            .isToldBack((x, v) -> x.fieldOf(2, 1));
        new Range("field's area", 1, 20, -1, RangesTest::plain, (x, v) -> x.field(0, 1, v, 3, true))
            .isToldBack((x, v) -> x.fieldOf(2, 2));
        new Range("field's owner", 0, 9, -1, RangesTest::plain, (x, v) -> x.field(0, 1, 2, v, true))
            .isToldBack((x, v) -> x.fieldOf(2, 3));
        for (int tanks = 2; tanks <= 11; tanks += 9) {
            TankChain x = new TankChain(tanks);
            for (int f = 0; f < 40; f++) {
                Due.due("field " + f, x.field(tanks - 1, 9 - f % 10, 20 - f % 20, f % 10, f % 2 == 0), f);
            }
            Due.due("fields", x.count(2), 40);
            for (int i = 0; i < 3; i++) {
                Due.due("a field more than 40", x.field(i % tanks, 0, 1, 0, true), -1);
            }
            Due.due("fields, still", x.count(2), 40);
            Due.due("the last in order", x.order(tanks - 1, 39), 39);
            Due.due("behind the last in order", x.order(tanks - 1, 40), -1);
            Due.due("in order at a tank without", x.order(0, 0), -1);
            Due.due("the last field's tank", x.fieldOf(39, 0), tanks - 1);
            Due.due("behind the last field", x.fieldOf(40, 0), -1);
        }
    }

    private static void open() {
        new Range("open's tank", 0, 2, 0, RangesTest::plain, (x, v) -> as(x.open(v, 7))).answers((x, v) -> 1);
        new Range("opening", 0, 20, 0, RangesTest::plain, (x, v) -> as(x.open(2, v)))
            .isToldBack((x, v) -> x.told(2, 4));
        new Range("opening behind a day, breached", 0, 20, 0, RangesTest::breached, (x, v) -> as(x.open(0, v)))
            .isToldBack((x, v) -> x.told(0, 4));
    }

    private static void mend() {
        new Range("mend's tank", 0, 2, 0, RangesTest::breached, (x, v) -> as(x.mend(v, 7))).answers((x, v) -> 1);
        new Range("bank of a whole one", 0, 500, 0, RangesTest::plain, (x, v) -> as(x.mend(1, v)))
            .isToldBack((x, v) -> x.told(1, 2));
        new Range("bank of one mended", 0, 500, 0, RangesTest::breached, (x, v) -> as(x.mend(0, v)))
            .isToldBack((x, v) -> x.told(0, 6) == 0 ? x.told(0, 2) : -1);
        new Range("breached still where refused", 0, 500, 0, RangesTest::breached, (x, v) -> as(x.mend(0, v)))
            .isToldBack((x, v) -> x.told(0, 7) == 10 ? v : -1);
    }

    private static void dredge() {
        new Range("dredge's tank", 0, 2, -1, RangesTest::silted, (x, v) -> x.dredge(v, 5)).answers((x, v) -> 15);
        new Range("dredge of 20", 1, 20, -1, RangesTest::silted, (x, v) -> x.dredge(2, v)).answers((x, v) -> 20 - v);
        new Range("dredge of 3", 1, 3, -1, () -> {
            TankChain x = silted();
            x.dredge(2, 17);
            return x;
        }, (x, v) -> x.dredge(2, v)).answers((x, v) -> 3 - v);
        TankChain x = silted();
        Due.due("dredge(0, 20)", x.dredge(0, 20), 0);
        Look before = Look.at(x);
        int[] none = {LEAST, -1, 0, 1, 2, 20, GREATEST};
        for (int much : none) {
            Due.due("dredge(0, " + much + ") of no silt", x.dredge(0, much), -1);
        }
        Look.at(x).dueAs("dredge() of no silt", before);
    }

    private static void feed() {
        int[] any = {LEAST, LEAST + 1, -1, 0, 1, 255, 256, 65536, GREATEST};
        for (int number : any) {
            TankChain x = new TankChain(2);
            for (int bytes = 20; bytes <= 300; bytes += 20) {
                Due.due("feed of " + number, x.feed(number, number, number, number, number), bytes);
                Due.due("bytes on the tape", x.count(8), bytes);
            }
            Look before = Look.at(x);
            Due.due("feed of more than 300", x.feed(number, 0, 0, 0, number), -1);
            Due.due("feed of more than 300", x.feed(0, number, number, number, 0), -1);
            Look.at(x).dueAs("feed() of a full tape", before);
        }
    }

    private static void custom() {
        for (int feeds = 0; feeds <= 15; feeds += 3) {
            int fed = feeds;
            new Range("custom of a tape of " + feeds * 20, 0, feeds * 20, -2, () -> {
                TankChain x = plain();
                for (int i = 0; i < fed; i++) {
                    x.feed(0x20202020, 0x0A0A0A0A, 0x20202020, 0x0A0A0A0A, 0x20202020);
                }
                return x;
            }, (x, v) -> x.custom(v)).answers((x, v) -> 0);
        }
    }

    private static void day() {
        new Range("rain", 0, 50, -1, RangesTest::plain, (x, v) -> v == -1 ? -1 : x.day(v))
            .isToldBack((x, v) -> x.count(7) / 3);
        new Range("rain behind days", 0, 50, -1, RangesTest::silted, (x, v) -> v == -1 ? -1 : x.day(v))
            .answers((x, v) -> 101);
        TankChain x = plain();
        Due.due("day(-1), none told before", x.day(-1), 1);
        Due.due("rain, 0 at first", x.count(7), 0);
        int[] refused = {51, -2, LEAST, GREATEST};
        for (int rain : refused) {
            x.day(7);
            long came = x.count(7);
            Due.due("day(" + rain + ")", x.day(rain), -1);
            Due.due("rain that came", x.count(7), came);
            x.day(-1);
            Due.due("rain as the last that was told", x.count(7), came + 3 * 7);
        }
    }

    /** Beyond the calls that an object is promised to answer, so that the day's bound is seen at all. */
    private static void dayUpToAThousand() {
        TankChain x = plain();
        for (int i = 1; i <= 1000; i++) {
            Due.due("day", x.day(0), i);
        }
        Due.due("silt of ten hundreds of days", x.told(0, 5), 200);
        Due.due("day behind 1000", x.day(0), -1);
        Due.due("day behind 1000", x.day(-1), -1);
        Due.due("day behind 1000", x.day(50), -1);
        Due.due("the day", x.count(0), 1000);
        Due.due("rain", x.count(7), 0);
    }

    private static void askedOf() {
        int[][] tanks = {{0, 1}, {1, 1000}, {2, 500}, {3, 0}, {5, 0}, {6, 0}, {7, 1000}, {8, 0}, {9, 0}, {11, 1}};
        for (int[] one : tanks) {
            new Range("tank of told " + one[0], 0, 2, -1, RangesTest::plain, (x, v) -> x.told(v, one[0]))
                .answers((x, v) -> one[1]);
        }
        new Range("tank of told 4", 0, 2, -1, RangesTest::plain, (x, v) -> x.told(v, 4)).answers((x, v) -> v == 1 ? 8 : 0);
        new Range("what of told", 0, 11, -1, RangesTest::breached, (x, v) -> x.told(0, v))
            .answers((x, v) -> new int[] {20, 10, 0, 0, 0, 0, 1, 0, 0, 20, 0, 1}[v]);
        new Range("field of fieldOf", 0, 1, -1, RangesTest::plain, (x, v) -> x.fieldOf(v, 0)).answers((x, v) -> 1);
        new Range("what of fieldOf", 0, 7, -1, RangesTest::plain, (x, v) -> x.fieldOf(0, v))
            .answers((x, v) -> new int[] {1, 4, 6, 2, 1, 0, 0, 0}[v]);
        new Range("k of order", 0, 1, -1, RangesTest::plain, (x, v) -> x.order(1, v)).answers((x, v) -> v);
        new Range("tank of order", 1, 1, -1, RangesTest::plain, (x, v) -> x.order(v, 0)).answers((x, v) -> 0);
        new Range("owner", 0, 9, -1, RangesTest::plain, (x, v) -> x.owner(v)).answers((x, v) -> 0);
        new Range("what of breach", 0, 2, -1, RangesTest::breached, (x, v) -> x.breach(v))
            .answers((x, v) -> new int[] {0, 1, 0}[v]);
        new Range("what of count", 0, 9, -1, RangesTest::breached, (x, v) -> x.count(v))
            .answers((x, v) -> new int[] {1, 3, 2, 1 + 20 + 1, 0, 0, 0, 22, 0, 0}[v]);
        for (int what = 0; what < 3; what++) {
            Due.due("breach(" + what + "), none ever", plain().breach(what), -1);
            Due.due("told(" + what + ", 10), none ever", plain().told(what, 10), -1);
        }
    }

    private static void tried() {
        new Range("tank of tried", 0, 2, -1, RangesTest::plain, (x, v) -> x.tried(v, 1, 9)).answers((x, v) -> v == 1 ? 1
            : v == 2 ? 9 + 4 : 9);
        new Range("days of tried", 1, 10, -1, RangesTest::plain, (x, v) -> x.tried(0, v, 1)).answers((x, v) -> v);
        new Range("rain of tried", 0, 50, -1, RangesTest::plain, (x, v) -> x.tried(0, 1, v))
            .answers((x, v) -> v == 50 ? 49 : v);
    }

    private static void lost() {
        new Range("k of lost", 0, 1, -100000, RangesTest::plain, (x, v) -> x.lost(v, 2, 1, 9))
            .answers((x, v) -> v == 1 ? -4 : 0);
        new Range("t of lost", 1, 2, -100000, RangesTest::plain, (x, v) -> x.lost(0, v, 1, 9)).answers((x, v) -> 0);
        new Range("t of lost, k the last but one", 2, 2, -100000, RangesTest::plain, (x, v) -> x.lost(1, v, 1, 9))
            .answers((x, v) -> -4);
        int[] none = {LEAST, -1, 0, 1, 2, 3, 4, GREATEST};
        for (int t : none) {
            Due.due("lost(2, " + t + ", 1, 9), k the last", plain().lost(2, t, 1, 9), -100000);
        }
        new Range("days of lost", 1, 10, -100000, RangesTest::plain, (x, v) -> x.lost(1, 2, v, 8))
            .answers((x, v) -> v == 1 ? -4 : v == 2 ? -8 : v == 9 ? 69 - 102 : 76 - 112);
        // 49 and the 4 that drain are the first of which something seeps
        new Range("rain of lost", 0, 50, -100000, RangesTest::plain, (x, v) -> x.lost(1, 2, 1, v))
            .answers((x, v) -> v < 2 ? 0 : v == 49 ? 49 - 52 : 49 - 53);
    }

    private static void most() {
        new Range("k of most of 1", 0, 2, -1, RangesTest::plain, (x, v) -> x.most(v, 1, 1, 8, 0)).answers((x, v) -> 8);
        new Range("k of most of 2", 0, 1, -1, RangesTest::plain, (x, v) -> x.most(v, 2, 1, 8, 0)).answers((x, v) -> 8);
        new Range("k of most of 3", 0, 0, -1, RangesTest::plain, (x, v) -> x.most(v, 3, 1, 8, 0)).answers((x, v) -> 8);
        new Range("m of most from 0", 1, 3, -1, RangesTest::plain, (x, v) -> x.most(0, v, 1, 8, 0)).answers((x, v) -> 8);
        new Range("m of most from 1", 1, 2, -1, RangesTest::plain, (x, v) -> x.most(1, v, 1, 8, 0)).answers((x, v) -> 8);
        new Range("m of most from 2", 1, 1, -1, RangesTest::plain, (x, v) -> x.most(2, v, 1, 8, 0)).answers((x, v) -> 8);
        new Range("m of most of eleven", 1, 3, -1, () -> new TankChain(11), (x, v) -> x.most(4, v, 1, 8, 0))
            .answers((x, v) -> 0);
        new Range("k of most of eleven", 0, 8, -1, () -> new TankChain(11), (x, v) -> x.most(v, 3, 1, 8, 0))
            .answers((x, v) -> 0);
        new Range("days of most", 1, 10, -1, RangesTest::plain, (x, v) -> x.most(1, 1, v, 8, 0))
            .answers((x, v) -> 8 * v);
        new Range("rain of most", 0, 50, -1, RangesTest::plain, (x, v) -> x.most(1, 1, 1, v, 0))
            .answers((x, v) -> v < 2 ? 0 : 8);
        new Range("what of most of 1", 0, 1, -1, RangesTest::plain, (x, v) -> x.most(1, 1, 1, 8, v))
            .answers((x, v) -> v == 0 ? 8 : 10);
        new Range("what of most of 2", 0, 2, -1, RangesTest::plain, (x, v) -> x.most(0, 2, 1, 8, v))
            .answers((x, v) -> new int[] {8, 0, 10}[v]);
        new Range("what of most of 3", 0, 3, -1, RangesTest::plain, (x, v) -> x.most(0, 3, 1, 8, v))
            .answers((x, v) -> new int[] {8, 0, 10, 0}[v]);
    }
}
