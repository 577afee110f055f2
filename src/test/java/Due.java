import java.nio.charset.StandardCharsets;
import java.util.Arrays;

/** What the tests share: counts and prints the calls whose answer is not the one that is due. */
final class Due {
    private static int wrong = 0;
    private static int asked = 0;

    private Due() {
    }

    static void due(String call, long got, long want) {
        asked++;
        if (got != want) {
            wrong++;
            System.out.println(call + " answered " + got + ", due is " + want);
        }
    }

    static void due(String call, boolean got, boolean want) {
        due(call, got ? 1 : 0, want ? 1 : 0);
    }

    /** A row of answers at once: of several alike calls, in their order. */
    static void dueRow(String calls, int[] got, int... want) {
        asked++;
        if (!Arrays.equals(got, want)) {
            wrong++;
            System.out.println(calls + " answered " + Arrays.toString(got) + ", due is " + Arrays.toString(want));
        }
    }

    static void close() {
        System.out.println(wrong == 0 ? "all " + asked + " answers are as due" : wrong + " answers are not as due");
        if (wrong != 0) {
            System.exit(1);
        }
    }

    /** Feeds a text with blanks behind it up to the next twenty bytes; answers how many bytes the text has. */
    static int put(TankChain x, String text) {
        byte[] signs = text.getBytes(StandardCharsets.ISO_8859_1);
        int feeds = (signs.length + 19) / 20;
        byte[] all = Arrays.copyOf(signs, feeds * 20);
        Arrays.fill(all, signs.length, all.length, (byte) ' ');
        for (int i = 0; i < feeds; i++) {
            int at = i * 20;
            x.feed(four(all, at), four(all, at + 4), four(all, at + 8), four(all, at + 12), four(all, at + 16));
        }
        return signs.length;
    }

    static int four(byte[] all, int at) {
        return (all[at] & 255) << 24 | (all[at + 1] & 255) << 16 | (all[at + 2] & 255) << 8 | all[at + 3] & 255;
    }

    /** The custom of this very text, from an empty tape. */
    static int take(TankChain x, String text) {
        return x.custom(put(x, text));
    }

    static int[] ordered(TankChain x, int tank, int many) {
        int[] row = new int[many];
        for (int k = 0; k < many; k++) {
            row[k] = x.order(tank, k);
        }
        return row;
    }

    static int[] got(TankChain x, int fields) {
        int[] row = new int[fields];
        for (int i = 0; i < fields; i++) {
            row[i] = x.fieldOf(i, 7);
        }
        return row;
    }

    static int[] told(TankChain x, int tank) {
        int[] row = new int[12];
        for (int what = 0; what < 12; what++) {
            row[what] = x.told(tank, what);
        }
        return row;
    }
}
