import java.util.ArrayList;
import java.util.List;

/** All that an object answers without being changed by it, as one row. */
final class Look {
    private final TankChain x;
    private final int tanks;
    private final int fields;
    private final List<String> calls = new ArrayList<>();
    private final List<Integer> answers = new ArrayList<>();

    private Look(TankChain x) {
        this.x = x;
        tanks = x.count(1);
        fields = x.count(2);
    }

    /** Some 32 calls, 14 a tank and 9 a field; of many fields some alone, as an object answers 512 calls. */
    static Look at(TankChain x) {
        Look look = new Look(x);
        look.tanks();
        look.fields();
        look.sums();
        look.trials();
        return look;
    }

    /** Every answer of this look against the same of the other one. */
    void dueAs(String when, Look other) {
        Due.due(when + ": answers to look at", answers.size(), other.answers.size());
        for (int i = 0; i < Math.min(answers.size(), other.answers.size()); i++) {
            Due.due(when + ": " + calls.get(i), answers.get(i), other.answers.get(i));
        }
    }

    private void add(String call, int answer) {
        calls.add(call);
        answers.add(answer);
    }

    private void tanks() {
        for (int t = 0; t < tanks; t++) {
            for (int what = 0; what < 12; what++) {
                add("told(" + t + ", " + what + ")", x.told(t, what));
            }
        }
    }

    private void fields() {
        for (int f = 0; f < fields; f += fields > 12 ? 13 : 1) {
            for (int what = 0; what < 8; what++) {
                add("fieldOf(" + f + ", " + what + ")", x.fieldOf(f, what));
            }
        }
        for (int t = 0; t < tanks; t++) {
            int field = 0;
            for (int k = 0; field != TankChain.NONE; k++) {
                field = x.order(t, k);
                add("order(" + t + ", " + k + ")", field);
            }
        }
    }

    private void sums() {
        for (int owner = 0; owner < 10; owner++) {
            add("owner(" + owner + ")", x.owner(owner));
        }
        for (int what = 0; what < 3; what++) {
            add("breach(" + what + ")", x.breach(what));
        }
        for (int what = 0; what < 10; what++) {
            add("count(" + what + ")", x.count(what));
        }
        add("fault()", x.fault());
    }

    private void trials() {
        for (int t = 0; t < tanks; t++) {
            add("tried(" + t + ", 3, 2)", x.tried(t, 3, 2));
        }
        add("lost(0, 1, 2, 3)", x.lost(0, 1, 2, 3));
        add("most(0, 2, 2, 1, 0)", x.most(0, 2, 2, 1, 0));
        add("most(0, 2, 2, 1, 1)", x.most(0, 2, 2, 1, 1));
        add("most(0, 2, 2, 1, 2)", x.most(0, 2, 2, 1, 2));
    }
}
