import java.nio.charset.StandardCharsets;
import java.util.ArrayList;
import java.util.Comparator;
import java.util.List;
import java.util.regex.Matcher;
import java.util.regex.Pattern;

/** The document once more, written slowly and in another way, for runs of calls that nobody works out by hand. */
final class Model {
    private static final Pattern TOKEN = Pattern.compile("[ \n]*(?:([a-z]+)|([0-9]+)|(;)|([^ \n]))");

    private static final class Acre {
        int number;
        int tank;
        int far;
        int area;
        int owner;
        boolean temple;
        int fed;
        int ever;
        int lately;

        Acre copy() {
            Acre c = new Acre();
            c.number = number;
            c.tank = tank;
            c.far = far;
            c.area = area;
            c.owner = owner;
            c.temple = temple;
            return c;
        }
    }

    private int n;
    private int[] catches;
    private int[] size;
    private int[] bank;
    private int[] water;
    private int[] opening;
    private int[] silt;
    private int[] taken;
    private int[] spilt;
    private int[] brokeOn;
    private boolean[] broken;
    private List<Acre> acres = new ArrayList<>();
    private List<String> firsts = new ArrayList<>();
    private int near = 9;
    private int hold = 0;
    private boolean fair = false;
    private int day = 0;
    private int rainTold = 0;
    private int out = 0;
    private int seep = 0;
    private int kept = 0;
    private int came = 0;
    private int toldWater = 0;
    private int fault = -1;
    private int[] breaches = {-1, -1, -1};
    private boolean trial = false;
    private String tape = "";

    private Model() {
    }

    Model(int tanks) {
        n = tanks < 2 ? 2 : tanks > 11 ? 11 : tanks;
        catches = new int[n];
        size = new int[n];
        bank = new int[n];
        water = new int[n];
        opening = new int[n];
        silt = new int[n];
        taken = new int[n];
        spilt = new int[n];
        brokeOn = new int[n];
        broken = new boolean[n];
        for (int t = 0; t < n; t++) {
            size[t] = 100;
            bank[t] = 50;
            brokeOn[t] = -1;
        }
    }

    private Model trial() {
        Model c = new Model();
        c.n = n;
        c.catches = catches;
        c.size = size;
        c.bank = bank;
        c.silt = silt;
        c.water = water.clone();
        c.opening = opening.clone();
        c.taken = taken.clone();
        c.spilt = spilt.clone();
        c.brokeOn = brokeOn.clone();
        c.broken = broken.clone();
        for (Acre a : acres) {
            c.acres.add(a.copy());
        }
        c.firsts = firsts;
        c.near = near;
        c.hold = hold;
        c.fair = fair;
        c.trial = true;
        return c;
    }

    private boolean isTank(int t) {
        return t >= 0 && t < n;
    }

    private int room(int t) {
        return broken[t] ? 0 : size[t] - silt[t];
    }

    boolean tank(int t, int c, int s, int b) {
        if (!isTank(t) || day > 0 || c < 0 || c > 20 || s < 10 || s > 1000 || b < 0 || b > 500) {
            return false;
        }
        catches[t] = c;
        size[t] = s;
        bank[t] = b;
        return true;
    }

    boolean water(int t, int much) {
        if (!isTank(t) || much < 0 || much > room(t)) {
            return false;
        }
        toldWater = toldWater - water[t] + much;
        water[t] = much;
        return true;
    }

    int field(int t, int far, int area, int owner, boolean temple) {
        if (!isTank(t) || far < 0 || far > 9 || area < 1 || area > 20 || owner < 0 || owner > 9 || acres.size() == 40) {
            return -1;
        }
        Acre a = new Acre();
        a.number = acres.size();
        a.tank = t;
        a.far = far;
        a.area = area;
        a.owner = owner;
        a.temple = temple;
        acres.add(a);
        return a.number;
    }

    boolean open(int t, int much) {
        if (!isTank(t) || much < 0 || much > 20) {
            return false;
        }
        opening[t] = much;
        return true;
    }

    boolean mend(int t, int b) {
        if (!isTank(t) || b < 0 || b > 500) {
            return false;
        }
        broken[t] = false;
        bank[t] = b;
        return true;
    }

    int dredge(int t, int much) {
        if (!isTank(t) || much < 1 || much > silt[t]) {
            return -1;
        }
        return silt[t] -= much;
    }

    int feed(int a, int b, int c, int d, int e) {
        if (tape.length() + 20 > 300) {
            return -1;
        }
        for (int number : new int[] {a, b, c, d, e}) {
            byte[] four = java.nio.ByteBuffer.allocate(4).putInt(number).array();
            tape += new String(four, StandardCharsets.ISO_8859_1);
        }
        return tape.length();
    }

    int custom(int many) {
        if (many < 0 || many > tape.length()) {
            return -2;
        }
        String text = tape.substring(0, many);
        tape = "";
        List<String> tokens = new ArrayList<>();
        List<Integer> places = new ArrayList<>();
        Matcher m = TOKEN.matcher(text);
        int from = 0;
        while (m.find(from) && m.start() == from) {
            int group = 1;
            while (m.group(group) == null) {
                group++;
            }
            tokens.add(m.group(group));
            places.add(m.start(group));
            from = m.end();
        }
        fault = faultOf(tokens, places, many);
        if (fault >= 0) {
            return -1;
        }
        takeUp(tokens);
        return (int) tokens.stream().filter(";"::equals).count();
    }

    private static int faultOf(List<String> tokens, List<Integer> places, int length) {
        int at = 0;
        int statements = 0;
        while (at < tokens.size()) {
            if (statements == 10) {
                return places.get(at);
            }
            String[] shape;
            switch (tokens.get(at)) {
                case "first": shape = new String[] {"first", "temple|small|near", ";"}; break;
                case "near": shape = new String[] {"near", "[0-9]{1,3}", ";"}; break;
                case "hold": shape = new String[] {"hold", "[0-9]{1,3}", ";"}; break;
                default: shape = new String[] {"fair", ";"};
            }
            for (String want : shape) {
                if (at == tokens.size()) {
                    return length;
                }
                if (!tokens.get(at).matches(want)) {
                    return places.get(at);
                }
                at++;
            }
            statements++;
        }
        return -1;
    }

    private void takeUp(List<String> tokens) {
        firsts = new ArrayList<>();
        near = 9;
        hold = 0;
        fair = false;
        String[] statements = String.join(" ", tokens).split(";");
        for (String one : statements) {
            String[] words = one.trim().split(" ");
            if (words[0].equals("first")) {
                firsts.add(words[1]);
            } else if (words[0].equals("near")) {
                near = Integer.parseInt(words[1]);
            } else if (words[0].equals("hold")) {
                hold = Integer.parseInt(words[1]);
            } else if (words[0].equals("fair")) {
                fair = true;
            }
        }
    }

    int fault() {
        return fault;
    }

    private List<Acre> ordered(int t) {
        Comparator<Acre> by = Comparator.comparingInt(a -> 0);
        for (String first : firsts) {
            if (first.equals("temple")) {
                by = by.thenComparing(a -> !a.temple);
            } else if (first.equals("small")) {
                by = by.thenComparingInt(a -> a.area);
            } else {
                by = by.thenComparingInt(a -> a.far);
            }
        }
        List<Acre> row = new ArrayList<>();
        for (Acre a : acres) {
            if (a.tank == t) {
                row.add(a);
            }
        }
        row.sort(by.thenComparingInt(a -> a.number));
        return row;
    }

    int day(int rain) {
        if (rain < -1 || rain > 50 || day == 1000) {
            return -1;
        }
        rainTold = rain == -1 ? rainTold : rain;
        if ((day + 1) % 100 == 0 && !trial) {
            for (int t = 0; t < n; t++) {
                silt[t] = Math.min(size[t], silt[t] + size[t] / 50);
            }
        }
        List<Integer> broke = new ArrayList<>();
        int down = 0;
        for (int t = 0; t < n; t++) {
            down = flow(t, down, broke);
        }
        out += down;
        if (!broke.isEmpty()) {
            breaches = new int[] {broke.get(0), broke.size(), day};
        }
        return ++day;
    }

    private int flow(int t, int down, List<Integer> broke) {
        came += rainTold * catches[t];
        water[t] += rainTold * catches[t] + down;
        seep += water[t] / 50;
        water[t] -= water[t] / 50;
        boolean bad = water[t] < size[t] / 2;
        int given = Math.min(opening[t], Math.max(0, water[t] - size[t] * hold / 100));
        List<Acre> row = ordered(t);
        for (Acre a : row) {
            a.lately = 0;
        }
        if (bad) {
            row.removeIf(a -> a.far > near);
        }
        deal(row, given);
        taken[t] = 0;
        for (Acre a : row) {
            taken[t] += a.lately;
            a.ever += a.lately;
            a.fed += a.lately == a.area ? 1 : 0;
        }
        water[t] -= taken[t];
        kept += taken[t] - taken[t] / 2;
        spilt[t] = Math.max(0, water[t] - room(t));
        if (!broken[t] && spilt[t] > bank[t]) {
            broken[t] = true;
            brokeOn[t] = day;
            broke.add(t);
            spilt[t] = water[t];
        }
        water[t] -= spilt[t];
        return taken[t] / 2 + spilt[t];
    }

    private void deal(List<Acre> row, int given) {
        int all = row.stream().mapToInt(a -> a.area).sum();
        int left = given;
        if (!fair || given >= all) {
            for (Acre a : row) {
                if (a.area <= left) {
                    a.lately = a.area;
                    left -= a.area;
                }
            }
            return;
        }
        for (Acre a : row) {
            a.lately = given * a.area / all;
            left -= a.lately;
        }
        List<Acre> byRemainder = new ArrayList<>(row);
        byRemainder.sort(Comparator.comparingInt(a -> -(given * a.area % all)));
        for (Acre a : byRemainder.subList(0, left)) {
            a.lately++;
        }
    }

    int told(int t, int what) {
        if (!isTank(t) || what < 0 || what > 11) {
            return -1;
        }
        return new int[] {catches[t], size[t], bank[t], water[t], opening[t], silt[t], broken[t] ? 1 : 0, room(t),
            taken[t], spilt[t], brokeOn[t], water[t] < size[t] / 2 ? 1 : 0}[what];
    }

    int fieldOf(int f, int what) {
        if (f < 0 || f >= acres.size() || what < 0 || what > 7) {
            return -1;
        }
        Acre a = acres.get(f);
        return new int[] {a.tank, a.far, a.area, a.owner, a.temple ? 1 : 0, a.fed, a.ever, a.lately}[what];
    }

    int order(int t, int k) {
        List<Acre> row = ordered(t);
        return k < 0 || k >= row.size() ? -1 : row.get(k).number;
    }

    int owner(int owner) {
        if (owner < 0 || owner > 9) {
            return -1;
        }
        return acres.stream().filter(a -> a.owner == owner).mapToInt(a -> a.area * a.fed).sum();
    }

    private static boolean mayTry(int d, int rain) {
        return d >= 1 && d <= 10 && rain >= 0 && rain <= 50;
    }

    private Model behind(int d, int rain) {
        for (int i = 0; i < d; i++) {
            day(rain);
        }
        return this;
    }

    int tried(int t, int d, int rain) {
        return isTank(t) && mayTry(d, rain) ? trial().behind(d, rain).water[t] : -1;
    }

    int lost(int k, int t, int d, int rain) {
        if (!isTank(k) || !isTank(t) || t <= k || !mayTry(d, rain)) {
            return -100000;
        }
        Model shut = trial();
        shut.opening[k] = 0;
        return shut.behind(d, rain).water[t] - trial().behind(d, rain).water[t];
    }

    int most(int k, int m, int d, int rain, int what) {
        if (!isTank(k) || m < 1 || m > 3 || k + m > n || !mayTry(d, rain) || what < 0 || what > m) {
            return -1;
        }
        int[] best = {-1, 0, 0, 0};
        best(k, m, d, rain, 0, new int[3], best);
        return best[what];
    }

    private void best(int k, int m, int d, int rain, int set, int[] chosen, int[] best) {
        if (set < m) {
            for (int o = 0; o <= 20; o += 5) {
                chosen[set] = o;
                best(k, m, d, rain, set + 1, chosen, best);
            }
            return;
        }
        Model x = trial();
        System.arraycopy(chosen, 0, x.opening, k, m);
        x.behind(d, rain);
        int fed = x.acres.stream().mapToInt(a -> a.area * a.fed).sum();
        if (fed > best[0]) {
            best[0] = fed;
            System.arraycopy(chosen, 0, best, 1, 3);
        }
    }

    int breach(int what) {
        return what < 0 || what > 2 ? -1 : breaches[what];
    }

    int count(int what) {
        int all = 0;
        for (int one : water) {
            all += one;
        }
        return what < 0 || what > 9 ? -1
            : new int[] {day, n, acres.size(), all, out, seep, kept, came, tape.length(), toldWater}[what];
    }
}
