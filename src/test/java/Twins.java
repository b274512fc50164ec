import java.util.ArrayList;
import java.util.List;
import java.util.function.Consumer;
import java.util.function.Supplier;

/**
 * Boxes that were made alike. What a call left behind, where nothing tells it at once (SKIN, THE
 * LIST, the THERMOSTAT, who is STUCK), shows in how the twins go on. No box here is asked more than
 * the document's 512 calls.
 */
final class Twins {
    private Twins() {
    }

    /** The call must throw, and a box must go on after it as one that was never asked. */
    static void refused(Check check, String what, Class<?> due, Supplier<ParticleBox> making,
            Consumer<ParticleBox> call) {
        ParticleBox box = making.get();
        ParticleBox twin = making.get();
        check.thrown(what, due, () -> call.accept(box));
        alike(check, what + " changes nothing", state(box), state(twin));
        alike(check, what + " changes nothing for later", future(box), future(twin));
    }

    static void alike(Check check, String what, List<String> got, List<String> due) {
        check.same(what + ", length", got.size(), due.size());
        for (int k = 0; k < Math.min(got.size(), due.size()); k++) {
            if (!got.get(k).equals(due.get(k))) {
                check.holds(what + ": " + got.get(k) + " for " + due.get(k), false);
                return;
            }
        }
    }

    /** All that can be asked without a change. */
    static List<String> state(ParticleBox box) {
        List<String> told = new ArrayList<>(matter(box));
        for (int what = 0; what <= 9; what++) {
            told.add("count " + what + " = " + box.count(what));
        }
        return told;
    }

    /** The state but for the counts. */
    static List<String> matter(ParticleBox box) {
        List<String> told = new ArrayList<>();
        for (int i = 0; i < box.count(0); i++) {
            for (int what = 0; what < 5; what++) {
                told.add("told " + i + " " + what + " = " + (box.told(i, what) + 0.0));
            }
            for (int axis = 0; axis < 2; axis++) {
                int one = i;
                int way = axis;
                told.add("force " + i + " " + axis + " = " + answer(() -> box.force(one, way)));
            }
        }
        for (int kind = 0; kind < 3; kind++) {
            int one = kind;
            told.add("energy " + kind + " = " + answer(() -> box.energy(one)));
        }
        told.add("temperature = " + box.temperature());
        for (int a = 0; a < 3; a++) {
            for (int b = a; b < 3; b++) {
                told.add("bins " + a + " " + b + " = " + bins(box, a, b));
            }
        }
        return told;
    }

    /** How the box goes on; counts are told by what they grow. */
    static List<String> future(ParticleBox box) {
        List<String> told = new ArrayList<>();
        for (int k = 0; k < 5; k++) {
            int[] before = counts(box);
            told.add("step: " + answer(() -> stepped(box)));
            told.add("sample: " + box.sample());
            int[] after = counts(box);
            for (int what = 0; what <= 9; what++) {
                told.add("step " + k + ", count " + what + " grows " + (after[what] - before[what]));
            }
        }
        for (int i = 0; i < box.count(0); i++) {
            for (int what = 0; what < 4; what++) {
                told.add("later told " + i + " " + what + " = " + (box.told(i, what) + 0.0));
            }
        }
        told.add("later energy = " + answer(() -> box.energy(0)));
        return told;
    }

    static int[] counts(ParticleBox box) {
        int[] all = new int[10];
        for (int what = 0; what < all.length; what++) {
            all[what] = box.count(what);
        }
        return all;
    }

    /**
     * Four atoms that push and pull, one of them STUCK, with a BOND, a ROD, a THERMOSTAT that is on,
     * a SKIN that some of the next STEPS pass, a LIST that is there, and no count that is 0.
     */
    static ParticleBox lively() {
        ParticleBox box = new ParticleBox(32);
        box.cut(3.0, 0.25);
        box.sort(0, 1.25, 1.5, 0.5);
        box.sort(1, 0.75, 2.5, -1.5);
        box.sort(2, 1.5, 0.5, 2.0);
        box.atom(4.0, 4.0, 2.0, 0);
        box.atom(5.5, 4.25, 1.0, 1);
        box.atom(4.5, 6.0, 4.0, 2);
        box.atom(6.25, 6.0, 8.0, 1);
        box.bond(0, 1, 0.5, 1.25);
        box.rod(1, 2, 2.0);
        failEachWay(box);
        box.stuck(3, true);
        box.speed(0, 1.5, -2.0);
        box.speed(1, -0.5, 2.5);
        box.speed(2, 3.0, 1.0);
        box.thermostat(8.0);
        box.sample();
        box.step(3, 16);
        return box;
    }

    /** Ten atoms, eight BONDS, four RODS: no room for more. */
    static ParticleBox full() {
        ParticleBox box = new ParticleBox(64);
        for (int i = 0; i < 10; i++) {
            box.atom(3.0 * i, 2.0 + i % 2, 1.0 + i, i % 3);
            box.speed(i, 0.5 * i, 2.0 - i);
        }
        for (int k = 0; k < 8; k++) {
            box.bond(k, k + 2, 0.25, 5.0);
        }
        for (int k = 0; k < 4; k++) {
            box.rod(2 * k, 2 * k + 1, 3.125);
        }
        box.step(1, 8);
        return box;
    }

    /** A ROD that one STEP of 128 turns by a right angle: each of ten rounds halves what is left. */
    static ParticleBox turning() {
        ParticleBox box = new ParticleBox(64);
        box.cut(0.5, 0.5);
        box.atom(4.0, 4.0, 1.0, 0);
        box.atom(6.0, 4.0, 1.0, 0);
        box.speed(0, 0.0, -8.0);
        box.speed(1, 0.0, 8.0);
        box.rod(0, 1, 2.0);
        return box;
    }

    /** STIFF, for both ends of the ROD are STUCK; OVERLAP; BLOWN; and then all is put back. */
    private static void failEachWay(ParticleBox box) {
        box.stuck(1, true);
        box.stuck(2, true);
        answer(() -> stepped(box));
        box.stuck(1, false);
        box.stuck(2, false);
        box.place(3, 4.0, 4.0);
        answer(() -> stepped(box));
        box.place(3, 4.0, 4.0625);
        answer(() -> stepped(box));
        box.place(3, 6.25, 6.0);
    }

    private static int stepped(ParticleBox box) {
        box.step(1, 16);
        return 0;
    }

    private static String bins(ParticleBox box, int a, int b) {
        StringBuilder row = new StringBuilder();
        for (int bin = 0; bin < 16; bin++) {
            row.append(box.bin(a, b, bin)).append(' ');
        }
        return row.toString();
    }

    private static String answer(Supplier<Number> call) {
        try {
            return Double.toString(call.get().doubleValue() + 0.0);
        } catch (RuntimeException e) {
            return e.getClass().getSimpleName();
        }
    }
}
