import java.util.function.Supplier;

/**
 * Long runs of calls, of all promises together, on the program and on PlainBox: each answer and,
 * after each call, the state must be the same. The calls come from a fixed row of numbers.
 */
public final class LongRunsTest {
    private static final int RUNS = 1500;
    private static final int MOST_CALLS = 512;

    private final Check check;
    private final int run;
    private final ParticleBox box;
    private final PlainBox plain;
    private final int wild;
    private long seed;
    private int calls;

    private LongRunsTest(Check check, int run) {
        this.check = check;
        this.run = run;
        seed = run * 7919L + 17L;
        wild = run % 4;
        int side = whole(0, 9) == 0 ? whole(-5, 90) : whole(8, 64);
        box = new ParticleBox(side);
        plain = new PlainBox(side);
    }

    public static void main(String[] args) {
        Check check = new Check("LongRunsTest");
        int[] seen = new int[10];
        for (int run = 1; run <= RUNS; run++) {
            LongRunsTest one = new LongRunsTest(check, run);
            one.go();
            for (int k = 0; k < seen.length; k++) {
                seen[k] += one.plain.count(k);
            }
        }
        // Without these the runs would say little about how a STEP fails.
        check.holds("many steps: " + seen[3], seen[3] > 20 * RUNS);
        check.holds("many lists: " + seen[4], seen[4] > 5 * RUNS);
        check.holds("many rounds: " + seen[5], seen[5] > RUNS);
        check.holds("many overlaps: " + seen[7], seen[7] > 100);
        check.holds("many stiff: " + seen[8], seen[8] > 100);
        check.holds("many blown: " + seen[9], seen[9] > 100);
        check.end();
    }

    private void go() {
        int atoms = whole(1, 10);
        for (int i = 0; i < atoms; i++) {
            addAtom(i);
        }
        for (int k = whole(0, 5); k > 0; k--) {
            act(whole(0, 11));
        }
        while (calls < MOST_CALLS - 160) {
            int turn = whole(0, 99);
            act(turn < 45 ? 12 : turn < 55 ? 13 : turn < 60 ? 14 : whole(0, 17));
            lookAtState();
        }
        lookAtAll();
        check.holds("run " + run + " is not too long", calls <= MOST_CALLS);
    }

    private void addAtom(int i) {
        // A loose grid, so that most runs begin without an OVERLAP.
        double step = plain.side / 4.0;
        double x = (i % 4) * step + number(0.0, step * 0.4) + (whole(0, 5) - 2) * plain.side;
        double y = (i / 4) * step + number(0.0, step * 0.4);
        double mass = whole(0, 1) == 0 ? whole(1, 64) : number(0.125, 4.0);
        int sort = whole(0, 2);
        both("atom", () -> box.atom(x, y, mass, sort), () -> plain.atom(x, y, mass, sort));
        if (whole(0, 1) == 0) {
            setSpeed(i, wild == 3 ? 900.0 : 8.0);
        }
    }

    private void act(int what) {
        int i = someAtom();
        int j = someAtom();
        switch (what) {
            case 0 -> setSpeed(i, whole(0, 4) == 0 ? 1050.0 : 20.0);
            case 1 -> setSort();
            case 2 -> setCut();
            case 3, 4 -> addBond(i, j);
            case 5, 6, 7, 8 -> addRod(i, j);
            case 9 -> {
                boolean on = whole(0, 1) == 0;
                both("stuck", () -> nothing(() -> box.stuck(i, on)),
                        () -> nothing(() -> plain.stuck(i, on)));
            }
            case 10 -> {
                double heat = number(-300.0, wild == 0 ? 1010.0 : 50.0);
                both("thermostat", () -> nothing(() -> box.thermostat(heat)),
                        () -> nothing(() -> plain.thermostat(heat)));
            }
            case 11 -> movePlace(i, j);
            case 12 -> go(whole(0, 30) == 0 ? whole(-1, 52) : whole(1, 6), 1 + whole(0, 3) * wild);
            case 13 -> go(whole(1, 3), whole(0, 30) == 0 ? whole(-1, 131) : whole(1, 128));
            case 14 -> both("sample", () -> box.sample(), () -> plain.sample());
            case 15 -> {
                double heat = whole(0, 5) == 0 ? 0.0 : number(-20.0, 1010.0);
                both("scale", () -> box.scale(heat), () -> plain.scale(heat));
            }
            case 16 -> addAtom(whole(0, 9));
            default -> ask(i, whole(-1, 5));
        }
    }

    private void setSpeed(int i, double most) {
        double u = number(-most, most);
        double v = number(-most, most);
        both("speed", () -> nothing(() -> box.speed(i, u, v)),
                () -> nothing(() -> plain.speed(i, u, v)));
    }

    private void setSort() {
        int sort = whole(0, 20) == 0 ? whole(-1, 3) : whole(0, 2);
        double width = whole(0, 20) == 0 ? number(0.0, 4.2) : number(0.125, 1.5);
        double depth = whole(0, 3) == 0 ? number(-1.0, 65.0) : number(0.0, 3.0);
        double charge = whole(0, 1) == 0 ? 0.0 : number(-8.2, 8.2);
        both("sort", () -> nothing(() -> box.sort(sort, width, depth, charge)),
                () -> nothing(() -> plain.sort(sort, width, depth, charge)));
    }

    private void setCut() {
        double cut = number(0.4, plain.side * 0.52);
        double skin = whole(0, 4) == 0 ? 0.0 : number(-0.05, whole(0, 3) == 0 ? 4.1 : 1.0);
        both("cut", () -> nothing(() -> box.cut(cut, skin)),
                () -> nothing(() -> plain.cut(cut, skin)));
    }

    private void addBond(int i, int j) {
        double strength = number(-0.1, whole(0, 3) == 0 ? 65.0 : 2.0);
        double length = number(0.1, plain.side * 0.51);
        both("bond", () -> box.bond(i, j, strength, length),
                () -> plain.bond(i, j, strength, length));
    }

    private void addRod(int i, int j) {
        double length = number(0.1, plain.side * 0.51);
        // Mostly about as long as the atoms are apart: else nearly every STEP would be STIFF.
        if (i != j && plain.atoms.size() > Math.max(i, j) && Math.min(i, j) >= 0
                && whole(0, 6) > 0) {
            double a = apart(plain.told(i, 0), plain.told(j, 0));
            double b = apart(plain.told(i, 1), plain.told(j, 1));
            length = Math.sqrt(a * a + b * b) * number(0.97, 1.03);
        }
        double given = length;
        both("rod", () -> box.rod(i, j, given), () -> plain.rod(i, j, given));
    }

    private double apart(double one, double two) {
        double z = Math.abs(one - two);
        return Math.min(z, plain.side - z);
    }

    private void movePlace(int i, int j) {
        boolean near = whole(0, 2) == 0 && j >= 0 && j < plain.atoms.size();
        double x = near ? plain.told(j, 0) + number(-0.2, 0.2) : number(-1005.0, 1005.0);
        double y = near ? plain.told(j, 1) + number(-0.2, 0.2) : number(-1005.0, 1005.0);
        both("place", () -> nothing(() -> box.place(i, x, y)),
                () -> nothing(() -> plain.place(i, x, y)));
    }

    private void go(int n, int d) {
        both("step(" + n + ", " + d + ")", () -> nothing(() -> box.step(n, d)),
                () -> nothing(() -> plain.step(n, d)));
    }

    private void ask(int i, int k) {
        both("energy", () -> box.energy(k), () -> plain.energy(k));
        both("force", () -> box.force(i, k), () -> plain.force(i, k));
        both("told", () -> box.told(i, k), () -> plain.told(i, k));
    }

    private void lookAtState() {
        int i = someAtom();
        for (int what = 0; what < 4; what++) {
            int it = what;
            both("told " + what, () -> box.told(i, it), () -> plain.told(i, it));
        }
        both("temperature", () -> box.temperature(), () -> plain.temperature());
        int k = whole(3, 9);
        both("count " + k, () -> box.count(k), () -> plain.count(k));
    }

    private void lookAtAll() {
        for (int what = -1; what <= 10; what++) {
            int it = what;
            both("count " + what, () -> box.count(it), () -> plain.count(it));
        }
        for (int i = 0; i < plain.atoms.size(); i++) {
            for (int what = 0; what < 5; what++) {
                int one = i;
                int it = what;
                both("told " + what, () -> box.told(one, it), () -> plain.told(one, it));
            }
        }
        for (int kind = 0; kind < 3; kind++) {
            int it = kind;
            both("energy " + kind, () -> box.energy(it), () -> plain.energy(it));
        }
        int a = whole(0, 2);
        int b = whole(0, 2);
        for (int bin = 0; bin < 16; bin++) {
            int it = bin;
            both("bin " + bin, () -> box.bin(a, b, it), () -> plain.bin(a, b, it));
        }
        for (int i = 0; i < plain.atoms.size(); i++) {
            int one = i;
            both("force x", () -> box.force(one, 0), () -> plain.force(one, 0));
            both("force y", () -> box.force(one, 1), () -> plain.force(one, 1));
        }
    }

    private void both(String call, Supplier<Number> got, Supplier<Number> due) {
        calls++;
        String want = answer(due);
        String have = answer(got);
        check.holds("run " + run + ", call " + calls + ", " + call + ": " + have + " for " + want,
                have.equals(want));
    }

    private static String answer(Supplier<Number> call) {
        try {
            Number number = call.get();
            // 0.0 and -0.0 are one number.
            return number instanceof Double d ? Double.toString(d + 0.0) : number.toString();
        } catch (RuntimeException e) {
            return e.getClass().getSimpleName();
        }
    }

    private static Number nothing(Runnable call) {
        call.run();
        return 0;
    }

    private int someAtom() {
        return whole(0, 40) == 0 ? whole(-1, 11) : whole(0, Math.max(0, plain.atoms.size() - 1));
    }

    private int whole(int least, int most) {
        seed = seed * 6364136223846793005L + 1442695040888963407L;
        return least + (int) ((seed >>> 33) % (most - least + 1));
    }

    private double number(double least, double most) {
        return least + (most - least) * whole(0, 1 << 30) / (1 << 30);
    }
}
