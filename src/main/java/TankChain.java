/** A chain of tanks down a valley; ../shared/DOC.md tells what each call does. */
public final class TankChain {
    public static final int NONE = -1;

    private static final int TOO_FEW_BYTES = -2;
    private static final int NO_LOSS = -100000;

    private static final int LEAST_TANKS = 2;
    private static final int MOST_TANKS = 11;
    private static final int MOST_CATCH = 20;
    private static final int LEAST_SIZE = 10;
    private static final int MOST_SIZE = 1000;
    private static final int FIRST_SIZE = 100;
    private static final int MOST_BANK = 500;
    private static final int FIRST_BANK = 50;
    private static final int MOST_OPENING = 20;
    private static final int MOST_FIELDS = 40;
    private static final int MOST_FAR = 9;
    private static final int MOST_AREA = 20;
    private static final int MOST_OWNER = 9;
    private static final int MOST_RAIN = 50;
    private static final int MOST_DAY = 1000;
    private static final int SEEP_PART = 50;
    private static final int HUNDREDTHS = 100;
    private static final int SILT_DAYS = 100;
    private static final int SILT_PART = 50;
    private static final int MOST_TRIED_DAYS = 10;
    private static final int MOST_TRIED_TANKS = 3;
    private static final int TRIED_OPENINGS = 5;
    private static final int TRIED_STEP = 5;
    private static final int TAPE_BYTES = 300;
    private static final int FED_BYTES = 20;
    private static final int MOST_STATEMENTS = 10;
    private static final int MOST_DIGITS = 3;

    private static final int FIRST_TEMPLE = 0;
    private static final int FIRST_SMALL = 1;
    private static final int FIRST_NEAR = 2;

    private static final int TEXT_END = 0;
    private static final int WORD = 1;
    private static final int DIGITS = 2;
    private static final int SEMICOLON = 3;
    private static final int STRANGE = 4;

    private final Tank[] tanks;
    private final Field[] fields = new Field[MOST_FIELDS];
    private final Tape tape = new Tape();
    private final Custom inForce = new Custom();
    private final Custom draft = new Custom();
    private final Flow flow;
    private final Sums ever = new Sums();
    private int fieldsThere = 0;
    private int daysGone = 0;
    private int lastRain = 0;
    private int waterTold = 0;
    private int faultPlace = NONE;
    private int breachDay = NONE;
    private int breachFirst = NONE;
    private int breachTanks = NONE;

    public TankChain(int tanks) {
        int many = Math.max(LEAST_TANKS, Math.min(MOST_TANKS, tanks));
        this.tanks = new Tank[many];
        Tank below = null;
        for (int i = many - 1; i >= 0; i--) {
            below = new Tank(i, below);
            this.tanks[i] = below;
        }
        flow = new Flow(below, inForce);
    }

    public boolean tank(int tank, int catches, int size, int bank) {
        Tank it = tankAt(tank);
        boolean asTold = it != null && isWithin(catches, 0, MOST_CATCH)
            && isWithin(size, LEAST_SIZE, MOST_SIZE) && isWithin(bank, 0, MOST_BANK);
        if (!asTold || daysGone > 0) {
            return false;
        }
        it.catches = catches;
        it.size = size;
        it.bank = bank;
        return true;
    }

    public boolean water(int tank, int much) {
        Tank it = tankAt(tank);
        if (it == null || !isWithin(much, 0, it.roomIf(it.now.breached))) {
            return false;
        }
        waterTold += much - it.now.water;
        it.now.water = much;
        return true;
    }

    public int field(int tank, int far, int area, int owner, boolean temple) {
        Tank it = tankAt(tank);
        boolean asTold = it != null && isWithin(far, 0, MOST_FAR)
            && isWithin(area, 1, MOST_AREA) && isWithin(owner, 0, MOST_OWNER);
        int number = fieldsThere;
        if (!asTold || number >= fields.length) {
            return NONE;
        }
        Field made = new Field(number, tank, far, area, owner, temple);
        fields[number] = made;
        fieldsThere = number + 1;
        it.putInOrder(made, inForce);
        return number;
    }

    public boolean open(int tank, int much) {
        Tank it = tankAt(tank);
        if (it == null || !isWithin(much, 0, MOST_OPENING)) {
            return false;
        }
        it.now.opening = much;
        return true;
    }

    public boolean mend(int tank, int bank) {
        Tank it = tankAt(tank);
        if (it == null || !isWithin(bank, 0, MOST_BANK)) {
            return false;
        }
        it.now.breached = false;
        it.bank = bank;
        return true;
    }

    public int dredge(int tank, int much) {
        Tank it = tankAt(tank);
        if (it == null || !isWithin(much, 1, it.silt)) {
            return NONE;
        }
        it.silt -= much;
        return it.silt;
    }

    public int feed(int a, int b, int c, int d, int e) {
        if (tape.held + FED_BYTES > TAPE_BYTES) {
            return NONE;
        }
        tape.putFour(a);
        tape.putFour(b);
        tape.putFour(c);
        tape.putFour(d);
        tape.putFour(e);
        return tape.held;
    }

    public int custom(int n) {
        if (!isWithin(n, 0, tape.held)) {
            return TOO_FEW_BYTES;
        }
        faultPlace = tape.faultReading(draft, n);
        tape.held = 0;
        if (faultPlace != NONE) {
            return NONE;
        }
        inForce.becomeAs(draft);
        orderAnew();
        return inForce.statements;
    }

    public int fault() {
        return faultPlace;
    }

    public int day(int rain) {
        boolean asTold = rain == NONE || isWithin(rain, 0, MOST_RAIN);
        if (!asTold || daysGone >= MOST_DAY) {
            return NONE;
        }
        if (rain != NONE) {
            lastRain = rain;
        }
        if ((daysGone + 1) % SILT_DAYS == 0) {
            addSilt();
        }
        flow.startFromNow();
        flow.passDay(lastRain);
        keepTanks();
        keepFields();
        ever.addAll(flow.sums);
        daysGone++;
        return daysGone;
    }

    public int told(int tank, int what) {
        Tank it = tankAt(tank);
        if (it == null) {
            return NONE;
        }
        switch (what) {
            case 0: return it.catches;
            case 1: return it.size;
            case 2: return it.bank;
            case 3: return it.now.water;
            case 4: return it.now.opening;
            case 5: return it.silt;
            case 6: return asNumber(it.now.breached);
            case 7: return it.roomIf(it.now.breached);
            case 8: return it.now.taken;
            case 9: return it.now.spilt;
            case 10: return it.breachedOn;
            case 11: return asNumber(it.isBadYearWith(it.now.water));
            default: return NONE;
        }
    }

    public int fieldOf(int field, int what) {
        Field it = fieldAt(field);
        if (it == null) {
            return NONE;
        }
        switch (what) {
            case 0: return it.tank;
            case 1: return it.far;
            case 2: return it.area;
            case 3: return it.owner;
            case 4: return asNumber(it.temple);
            case 5: return it.daysFed;
            case 6: return it.gotEver;
            case 7: return it.gotLately;
            default: return NONE;
        }
    }

    public int order(int tank, int k) {
        Tank it = tankAt(tank);
        if (it == null || k < 0) {
            return NONE;
        }
        int ahead = 0;
        for (Field one = it.firstField; one != null; one = one.next) {
            if (ahead == k) {
                return one.number;
            }
            ahead++;
        }
        return NONE;
    }

    public int owner(int owner) {
        if (!isWithin(owner, 0, MOST_OWNER)) {
            return NONE;
        }
        int areas = 0;
        for (int i = 0; i < fieldsThere; i++) {
            Field one = fieldAt(i);
            if (one != null && one.owner == owner) {
                areas += one.area * one.daysFed;
            }
        }
        return areas;
    }

    public int tried(int tank, int d, int rain) {
        Tank it = tankAt(tank);
        if (it == null || !mayTry(d, rain)) {
            return NONE;
        }
        return waterTried(it, null, d, rain);
    }

    public int lost(int k, int t, int d, int rain) {
        Tank above = tankAt(k);
        Tank below = tankAt(t);
        if (above == null || below == null || t <= k || !mayTry(d, rain)) {
            return NO_LOSS;
        }
        return waterTried(below, above, d, rain) - waterTried(below, null, d, rain);
    }

    public int most(int k, int m, int d, int rain, int what) {
        boolean asTold = tankAt(k) != null && isWithin(m, 1, MOST_TRIED_TANKS)
            && tankAt(k + m - 1) != null && mayTry(d, rain) && isWithin(what, 0, m);
        if (!asTold) {
            return NONE;
        }
        int choices = 1;
        for (int i = 0; i < m; i++) {
            choices *= TRIED_OPENINGS;
        }
        int mostFed = NONE;
        int best = 0;
        for (int choice = 0; choice < choices; choice++) {
            int fed = areasFedBy(choice, k, m, d, rain);
            if (fed > mostFed) {
                mostFed = fed;
                best = choice;
            }
        }
        return what == 0 ? mostFed : openingIn(best, m - what);
    }

    public int breach(int what) {
        switch (what) {
            case 0: return breachFirst;
            case 1: return breachTanks;
            case 2: return breachDay;
            default: return NONE;
        }
    }

    public int count(int what) {
        switch (what) {
            case 0: return daysGone;
            case 1: return tanks.length;
            case 2: return fieldsThere;
            case 3: return allWater();
            case 4: return ever.out;
            case 5: return ever.seeped;
            case 6: return ever.kept;
            case 7: return ever.rained;
            case 8: return tape.held;
            case 9: return waterTold;
            default: return NONE;
        }
    }

    private static boolean isWithin(int number, int least, int most) {
        return number >= least && number <= most;
    }

    private static int asNumber(boolean yes) {
        return yes ? 1 : 0;
    }

    private static boolean mayTry(int days, int rain) {
        return isWithin(days, 1, MOST_TRIED_DAYS) && isWithin(rain, 0, MOST_RAIN);
    }

    private Tank tankAt(int number) {
        return number >= 0 && number < tanks.length ? tanks[number] : null;
    }

    private Field fieldAt(int number) {
        return number >= 0 && number < fields.length ? fields[number] : null;
    }

    private int allWater() {
        int all = 0;
        for (Tank one = flow.head; one != null; one = one.below) {
            all += one.now.water;
        }
        return all;
    }

    private void orderAnew() {
        for (Tank one = flow.head; one != null; one = one.below) {
            one.firstField = null;
        }
        for (int i = 0; i < fieldsThere; i++) {
            Field one = fieldAt(i);
            Tank its = one == null ? null : tankAt(one.tank);
            if (its != null) {
                its.putInOrder(one, inForce);
            }
        }
    }

    private void addSilt() {
        for (Tank one = flow.head; one != null; one = one.below) {
            one.silt = Math.min(one.size, one.silt + one.size / SILT_PART);
        }
    }

    private void keepTanks() {
        int broke = 0;
        int first = NONE;
        for (Tank one = flow.head; one != null; one = one.below) {
            if (one.after.breached && !one.now.breached) {
                one.breachedOn = daysGone;
                first = broke == 0 ? one.number : first;
                broke++;
            }
            one.now.becomeAs(one.after);
        }
        if (broke > 0) {
            breachDay = daysGone;
            breachFirst = first;
            breachTanks = broke;
        }
    }

    private void keepFields() {
        for (int i = 0; i < fieldsThere; i++) {
            Field one = fieldAt(i);
            if (one != null) {
                one.keepShare();
            }
        }
    }

    private int waterTried(Tank asked, Tank shutOrNull, int days, int rain) {
        flow.startFromNow();
        if (shutOrNull != null) {
            shutOrNull.after.opening = 0;
        }
        for (int i = 0; i < days; i++) {
            flow.passDay(rain);
        }
        return asked.after.water;
    }

    private int areasFedBy(int choice, int first, int many, int days, int rain) {
        flow.startFromNow();
        for (int i = 0; i < many; i++) {
            Tank one = tankAt(first + i);
            if (one != null) {
                one.after.opening = openingIn(choice, many - 1 - i);
            }
        }
        int fed = 0;
        for (int i = 0; i < days; i++) {
            flow.passDay(rain);
            fed += flow.areasFed;
        }
        return fed;
    }

    // the last tank's opening counts up first, so that of several best choices the first is the one asked for
    private static int openingIn(int choice, int tanksBehind) {
        int rest = choice;
        for (int i = 0; i < tanksBehind; i++) {
            rest /= TRIED_OPENINGS;
        }
        return rest % TRIED_OPENINGS * TRIED_STEP;
    }

    // apart from the tank, so that a trial has what a day changes to itself
    private static final class Pool {
        int water = 0;
        int opening = 0;
        boolean breached = false;
        int taken = 0;
        int spilt = 0;

        void becomeAs(Pool other) {
            water = other.water;
            opening = other.opening;
            breached = other.breached;
            taken = other.taken;
            spilt = other.spilt;
        }
    }

    private static final class Tank {
        final int number;
        final Tank below;
        final Pool now = new Pool();
        final Pool after = new Pool();
        int catches = 0;
        int size = FIRST_SIZE;
        int bank = FIRST_BANK;
        int silt = 0;
        int breachedOn = NONE;
        Field firstField = null;

        Tank(int number, Tank below) {
            this.number = number;
            this.below = below;
        }

        int roomIf(boolean breached) {
            return breached ? 0 : size - silt;
        }

        boolean isBadYearWith(int water) {
            return water < size / 2;
        }

        void putInOrder(Field made, Custom custom) {
            Field before = null;
            Field behind = firstField;
            while (behind != null && !custom.isAhead(made, behind)) {
                before = behind;
                behind = behind.next;
            }
            made.next = behind;
            if (before == null) {
                firstField = made;
            } else {
                before.next = made;
            }
        }
    }

    private static final class Field {
        final int number;
        final int tank;
        final int far;
        final int area;
        final int owner;
        final boolean temple;
        Field next = null;
        // a trial's share and remainder stay here: only a day that goes by is kept
        int share = 0;
        int remainder = 0;
        int daysFed = 0;
        int gotEver = 0;
        int gotLately = 0;

        Field(int number, int tank, int far, int area, int owner, boolean temple) {
            this.number = number;
            this.tank = tank;
            this.far = far;
            this.area = area;
            this.owner = owner;
            this.temple = temple;
        }

        boolean isFed() {
            return share == area;
        }

        void keepShare() {
            gotLately = share;
            gotEver += share;
            if (isFed()) {
                daysFed++;
            }
        }
    }

    private static final class Custom {
        final int[] firsts = new int[MOST_STATEMENTS];
        int firstsThere = 0;
        int near = MOST_FAR;
        int hold = 0;
        boolean fair = false;
        int statements = 0;

        void clear() {
            firstsThere = 0;
            near = MOST_FAR;
            hold = 0;
            fair = false;
            statements = 0;
        }

        void becomeAs(Custom other) {
            clear();
            for (int i = 0; i < other.firstsThere && i < other.firsts.length; i++) {
                addFirst(other.firsts[i]);
            }
            near = other.near;
            hold = other.hold;
            fair = other.fair;
            statements = other.statements;
        }

        void addFirst(int what) {
            if (firstsThere < firsts.length) {
                firsts[firstsThere] = what;
                firstsThere++;
            }
        }

        boolean isAhead(Field one, Field other) {
            for (int i = 0; i < firstsThere && i < firsts.length; i++) {
                int less = rank(one, firsts[i]) - rank(other, firsts[i]);
                if (less != 0) {
                    return less < 0;
                }
            }
            return one.number < other.number;
        }

        private static int rank(Field one, int what) {
            switch (what) {
                case FIRST_TEMPLE: return one.temple ? 0 : 1;
                case FIRST_SMALL: return one.area;
                default: return one.far;
            }
        }
    }

    private static final class Sums {
        int rained = 0;
        int seeped = 0;
        int kept = 0;
        int out = 0;

        void clear() {
            rained = 0;
            seeped = 0;
            kept = 0;
            out = 0;
        }

        void addAll(Sums other) {
            rained += other.rained;
            seeped += other.seeped;
            kept += other.kept;
            out += other.out;
        }
    }

    // writes to the pools "after" and the fields' shares alone, so that days gone by and trials can share it
    private static final class Flow {
        final Tank head;
        final Custom custom;
        final Sums sums = new Sums();
        int areasFed = 0;

        Flow(Tank head, Custom custom) {
            this.head = head;
            this.custom = custom;
        }

        void startFromNow() {
            for (Tank one = head; one != null; one = one.below) {
                one.after.becomeAs(one.now);
            }
        }

        void passDay(int rain) {
            sums.clear();
            areasFed = 0;
            int fromAbove = 0;
            for (Tank one = head; one != null; one = one.below) {
                fromAbove = sentDown(one, rain * one.catches, fromAbove);
            }
            sums.out += fromAbove;
        }

        private int sentDown(Tank tank, int rained, int fromAbove) {
            Pool pool = tank.after;
            int water = pool.water + rained + fromAbove;
            int seep = water / SEEP_PART;
            water -= seep;
            int taken = takenByFields(tank, water);
            water -= taken;
            int drained = taken / 2;
            int spill = Math.max(0, water - tank.roomIf(pool.breached));
            if (!pool.breached && spill > tank.bank) {
                pool.breached = true;
                spill = water;
            }
            pool.water = water - spill;
            pool.taken = taken;
            pool.spilt = spill;
            sums.rained += rained;
            sums.seeped += seep;
            sums.kept += taken - drained;
            return drained + spill;
        }

        private int takenByFields(Tank tank, int water) {
            int held = tank.size * custom.hold / HUNDREDTHS;
            int given = Math.min(tank.after.opening, Math.max(0, water - held));
            int reach = tank.isBadYearWith(water) ? custom.near : MOST_FAR;
            int areas = areasWithin(tank, reach);
            if (custom.fair && given < areas) {
                shareFairly(tank, reach, given, areas);
            } else {
                shareInOrder(tank, reach, given);
            }
            int taken = 0;
            for (Field one = tank.firstField; one != null; one = one.next) {
                taken += one.share;
                areasFed += one.isFed() ? one.area : 0;
            }
            return taken;
        }

        private static int areasWithin(Tank tank, int reach) {
            int areas = 0;
            for (Field one = tank.firstField; one != null; one = one.next) {
                areas += one.far <= reach ? one.area : 0;
            }
            return areas;
        }

        private static void shareInOrder(Tank tank, int reach, int given) {
            int left = given;
            for (Field one = tank.firstField; one != null; one = one.next) {
                one.share = one.far <= reach && one.area <= left ? one.area : 0;
                left -= one.share;
            }
        }

        private static void shareFairly(Tank tank, int reach, int given, int areas) {
            int left = given;
            for (Field one = tank.firstField; one != null; one = one.next) {
                int claim = one.far <= reach ? given * one.area : 0;
                one.share = areas > 0 ? claim / areas : 0;
                one.remainder = claim - one.share * areas;
                left -= one.share;
            }
            for (; left > 0; left--) {
                giveOneMore(tank);
            }
        }

        // fewer are left than there are remainders above 0, so a field without one never has to get more
        private static void giveOneMore(Tank tank) {
            Field best = null;
            int greatest = 0;
            for (Field one = tank.firstField; one != null; one = one.next) {
                if (one.remainder > greatest) {
                    greatest = one.remainder;
                    best = one;
                }
            }
            if (best != null) {
                best.share++;
                best.remainder = 0;
            }
        }
    }

    private static final class Tape {
        final byte[] bytes = new byte[TAPE_BYTES];
        int held = 0;
        private int length = 0;
        private int kind = TEXT_END;
        private int begin = 0;
        private int end = 0;

        void putFour(int number) {
            putByte(number >> 24);
            putByte(number >> 16);
            putByte(number >> 8);
            putByte(number);
        }

        private void putByte(int number) {
            if (held >= 0 && held < bytes.length) {
                bytes[held] = (byte) number;
                held++;
            }
        }

        int faultReading(Custom read, int textLength) {
            length = textLength;
            end = 0;
            read.clear();
            nextToken();
            while (kind != TEXT_END && read.statements < MOST_STATEMENTS) {
                if (!readStatement(read)) {
                    return begin;
                }
                read.statements++;
                nextToken();
            }
            return kind == TEXT_END ? NONE : begin;
        }

        // where it is none it stops at the token that is wrong, which is the fault's place
        private boolean readStatement(Custom read) {
            boolean goesOn;
            if (isWord("first")) {
                nextToken();
                goesOn = readFirst(read);
            } else if (isWord("near")) {
                nextToken();
                read.near = numberHere();
                goesOn = read.near != NONE;
            } else if (isWord("hold")) {
                nextToken();
                read.hold = numberHere();
                goesOn = read.hold != NONE;
            } else {
                goesOn = isWord("fair");
                read.fair = read.fair || goesOn;
            }
            if (!goesOn) {
                return false;
            }
            nextToken();
            return kind == SEMICOLON;
        }

        private boolean readFirst(Custom read) {
            if (isWord("temple")) {
                read.addFirst(FIRST_TEMPLE);
            } else if (isWord("small")) {
                read.addFirst(FIRST_SMALL);
            } else if (isWord("near")) {
                read.addFirst(FIRST_NEAR);
            } else {
                return false;
            }
            return true;
        }

        private boolean isWord(String word) {
            if (kind != WORD || end - begin != word.length()) {
                return false;
            }
            for (int i = 0; i < word.length(); i++) {
                if (byteAt(begin + i) != word.charAt(i)) {
                    return false;
                }
            }
            return true;
        }

        private int numberHere() {
            if (kind != DIGITS || end - begin > MOST_DIGITS) {
                return NONE;
            }
            int number = 0;
            for (int i = begin; i < end; i++) {
                number = number * 10 + byteAt(i) - '0';
            }
            return number;
        }

        private void nextToken() {
            begin = end;
            while (begin < length && isBlank(byteAt(begin))) {
                begin++;
            }
            end = begin;
            if (begin >= length) {
                kind = TEXT_END;
            } else if (isLetter(byteAt(begin))) {
                kind = WORD;
                while (end < length && isLetter(byteAt(end))) {
                    end++;
                }
            } else if (isDigit(byteAt(begin))) {
                kind = DIGITS;
                while (end < length && isDigit(byteAt(end))) {
                    end++;
                }
            } else {
                kind = byteAt(begin) == ';' ? SEMICOLON : STRANGE;
                end++;
            }
        }

        private int byteAt(int place) {
            return place >= 0 && place < bytes.length ? bytes[place] : 0;
        }

        private static boolean isBlank(int sign) {
            return sign == ' ' || sign == '\n';
        }

        private static boolean isLetter(int sign) {
            return sign >= 'a' && sign <= 'z';
        }

        private static boolean isDigit(int sign) {
            return sign >= '0' && sign <= '9';
        }
    }
}
