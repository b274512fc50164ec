/** Promises 12 to 19: what is asked of a box. (TermsTest holds the edges.) */
public final class ReckoningTest {
    private static final Check CHECK = new Check("ReckoningTest");

    public static void main(String[] args) {
        scaleMultipliesSpeeds();
        scaleTakesItsOwnRoot();
        scaleLeavesStuckAtoms();
        energyOfPairs();
        energyOfPairsInOrder();
        energyOfBonds();
        energyOfMotion();
        forceOfPairs();
        forceOfBonds();
        forceInOrder();
        toldTells();
        temperatureOfAll();
        sampleFillsBins();
        sampleJoinsClasses();
        sampleAtTheCut();
        countCounts();
        CHECK.end();
    }

    /** Masses 2 and 4, TEMPERATURE (2 * 16 + 4 * 4) / 4 = 12. */
    private static void scaleMultipliesSpeeds() {
        ParticleBox box = pair(4.0);
        box.speed(0, 4.0, 0.0);
        box.speed(1, 0.0, -2.0);
        CHECK.same("scale: before", box.scale(48.0), 12.0);
        CHECK.same("scale: u", box.told(0, 2), 8.0);
        CHECK.same("scale: v", box.told(1, 3), -4.0);
        CHECK.same("scale: after", box.temperature(), 48.0);
        CHECK.same("scale: again", box.scale(3.0), 48.0);
        CHECK.same("scale: down", box.told(0, 2), 2.0);
        CHECK.same("scale: x stays", box.told(0, 0), 4.0);
        CHECK.same("scale: to nothing", box.scale(0.0), 3.0);
        CHECK.same("scale: u is 0", box.told(0, 2), 0.0);
        CHECK.same("scale: v is 0", box.told(1, 3), 0.0);
        CHECK.same("scale: from nothing", box.scale(1000.0), 0.0);
        CHECK.same("scale: u stays 0", box.told(0, 2), 0.0);
    }

    private static void scaleTakesItsOwnRoot() {
        double[] wanted = {2.0, 1000.0, 0.3, 1e-8, 1e-30, 1e-300, Double.MIN_VALUE, -0.0};
        for (double z : wanted) {
            ParticleBox box = new ParticleBox(64);
            box.atom(4.0, 4.0, 2.0, 0);
            box.speed(0, 1.0, 0.0);
            box.scale(z);
            CHECK.same("scale: root of " + z, box.told(0, 2), root(z));
        }
        CHECK.holds("scale: forty turns do not reach 1e-15", root(1e-30) > 4e-13);
    }

    private static double root(double z) {
        if (z == 0.0) {
            return 0.0;
        }
        double r = (z + 1.0) * 0.5;
        for (int k = 1; k <= 40; k++) {
            r = (r + z / r) * 0.5;
        }
        return r;
    }

    private static void scaleLeavesStuckAtoms() {
        ParticleBox box = pair(4.0);
        box.stuck(1, true);
        box.speed(0, 4.0, 2.0);
        box.speed(1, 2.0, 4.0);
        CHECK.same("scale: a stuck one's speed counts", box.scale(15.0), 60.0);
        CHECK.same("scale: loose u", box.told(0, 2), 2.0);
        CHECK.same("scale: loose v", box.told(0, 3), 1.0);
        CHECK.same("scale: stuck u", box.told(1, 2), 2.0);
        CHECK.same("scale: stuck v", box.told(1, 3), 4.0);
    }

    /** r2 = 2 and s = 1: q = 0.5, p = 0.125; CUT is 8. */
    private static void energyOfPairs() {
        ParticleBox box = pair(1.0);
        box.place(1, 5.0, 5.0);
        CHECK.same("energy 0", box.energy(0), 4.0 * (0.015625 - 0.125));
        box.sort(0, 1.0, 3.0, 4.0);
        box.sort(1, 1.0, 5.0, -2.0);
        double due = 16.0 * (0.015625 - 0.125) - 8.0 * (0.5 - 0.015625);
        CHECK.same("energy 0: depth and charge", box.energy(0), due);
        box.place(0, 31.5, 31.5);
        box.place(1, 0.5, 0.5);
        CHECK.same("energy 0: across the edges", box.energy(0), due);
        box.cut(1.5, 0.0);
        CHECK.same("energy 0: of the CUT",
                box.energy(0), 16.0 * (0.015625 - 0.125) - 8.0 * (0.5 - 1.0 / 2.25));
        box.place(1, 1.0, 31.5);
        CHECK.same("energy 0: at the CUT", box.energy(0), 0.0);
        CHECK.same("energy 1: no bonds", box.energy(1), 0.0);
    }

    private static void energyOfPairsInOrder() {
        ParticleBox box = new ParticleBox(64);
        double[] x = {4.0, 5.1, 6.3, 7.7};
        for (double z : x) {
            box.atom(z, 4.0, 1.0, 0);
        }
        double sum = 0.0;
        for (int i = 0; i < x.length; i++) {
            for (int j = i + 1; j < x.length; j++) {
                double a = box.told(j, 0) - box.told(i, 0);
                double q = 1.0 / (a * a);
                double p = q * q * q;
                sum = sum + 4.0 * (p * p - p);
            }
        }
        CHECK.same("energy 0: in order", box.energy(0), sum);
    }

    private static void energyOfBonds() {
        ParticleBox box = pair(3.0);
        box.bond(0, 1, 2.0, 1.0);
        CHECK.same("energy 1", box.energy(1), 0.25 * 2.0 * 8.0 * 8.0);
        box.bond(1, 0, 1.0, 4.0);
        CHECK.same("energy 1: of two", box.energy(1), 32.0 + 0.25 * 49.0);
        box.bond(0, 1, 0.0, 16.0);
        CHECK.same("energy 1: of no strength", box.energy(1), 32.0 + 0.25 * 49.0);
        box.atom(20.0, 20.0, 1.0, 0);
        CHECK.same("energy 1: with another atom", box.energy(1), 32.0 + 0.25 * 49.0);
        box.cut(0.5, 0.0);
        CHECK.same("energy 1: whatever the CUT", box.energy(1), 32.0 + 0.25 * 49.0);
        box.place(0, 31.0, 4.0);
        box.place(1, 2.0, 4.0);
        CHECK.same("energy 1: across the edge", box.energy(1), 32.0 + 0.25 * 49.0);
    }

    private static void energyOfMotion() {
        ParticleBox box = pair(4.0);
        CHECK.same("energy 2: at rest", box.energy(2), 0.0);
        box.speed(0, 3.0, -4.0);
        CHECK.same("energy 2: of one", box.energy(2), 25.0);
        box.speed(1, -1.0, 2.0);
        CHECK.same("energy 2: of two", box.energy(2), 35.0);
        box.stuck(1, true);
        box.speed(1, 1.0, 0.0);
        CHECK.same("energy 2: of a stuck one", box.energy(2), 27.0);
    }

    private static void forceOfPairs() {
        ParticleBox box = pair(1.0);
        box.place(1, 5.0, 3.0);
        double f = 24.0 * (0.125 - 2.0 * 0.125 * 0.125) / 2.0;
        CHECK.same("force: x of 0", box.force(0, 0), f);
        CHECK.same("force: y of 0", box.force(0, 1), -f);
        CHECK.same("force: x of 1", box.force(1, 0), -f);
        CHECK.same("force: y of 1", box.force(1, 1), f);
        box.sort(0, 0.5, 0.0, 4.0);
        box.sort(1, 1.5, 2.0, 3.0);
        CHECK.same("force: with charges", box.force(0, 0), f - 24.0 / 4.0);
        box.place(0, 31.5, 0.5);
        box.place(1, 0.5, 31.5);
        CHECK.same("force: across the edges x", box.force(0, 0), f - 6.0);
        CHECK.same("force: across the edges y", box.force(0, 1), 6.0 - f);
        box.cut(1.0, 0.0);
        CHECK.same("force: beyond the CUT", box.force(0, 0), 0.0);
        box.place(1, 0.5, 0.5);
        CHECK.same("force: at the CUT", box.force(0, 0), 0.0);
    }

    private static void forceOfBonds() {
        ParticleBox box = pair(3.0);
        box.cut(0.5, 0.0);
        box.bond(1, 0, 2.0, 1.0);
        CHECK.same("force: bond x of 0", box.force(0, 0), 48.0);
        CHECK.same("force: bond x of 1", box.force(1, 0), -48.0);
        CHECK.same("force: bond y", box.force(1, 1), 0.0);
        box.place(1, 4.0, 7.0);
        box.bond(0, 1, 1.0, 4.0);
        CHECK.same("force: bonds y of 0", box.force(0, 1), 48.0 - 21.0);
        CHECK.same("force: bonds y of 1", box.force(1, 1), 21.0 - 48.0);
        box.atom(9.0, 9.0, 1.0, 0);
        CHECK.same("force: without a bond", box.force(2, 0), 0.0);
    }

    private static void forceInOrder() {
        ParticleBox box = new ParticleBox(64);
        double[] x = {4.0, 5.1, 6.3, 7.7};
        for (double z : x) {
            box.atom(z, 4.0, 1.0, 0);
        }
        box.bond(3, 1, 0.3, 1.7);
        box.bond(0, 1, 0.7, 2.3);
        double sum = 0.0;
        for (int j = 0; j < x.length; j++) {
            double a = box.told(j, 0) - box.told(1, 0);
            double r2 = a * a;
            double q = 1.0 / r2;
            double p = q * q * q;
            if (j != 1) {
                sum = sum + (24.0 * (p - 2.0 * p * p) / r2 - 0.0) * a;
            }
        }
        double a = box.told(3, 0) - box.told(1, 0);
        sum = sum + 0.3 * (a * a - 1.7 * 1.7) * a;
        a = box.told(0, 0) - box.told(1, 0);
        sum = sum + 0.7 * (a * a - 2.3 * 2.3) * a;
        CHECK.same("force: in order", box.force(1, 0), sum);
    }

    private static void toldTells() {
        ParticleBox box = pair(4.0);
        box.speed(1, 7.0, -6.0);
        double[] due = {8.0, 4.0, 7.0, -6.0, 4.0};
        for (int what = 0; what < due.length; what++) {
            CHECK.same("told " + what, box.told(1, what), due[what]);
        }
    }

    private static void temperatureOfAll() {
        ParticleBox box = pair(4.0);
        CHECK.same("temperature: at rest", box.temperature(), 0.0);
        box.speed(0, 3.0, 4.0);
        CHECK.same("temperature: of two", box.temperature(), 50.0 / 4.0);
        box.speed(1, 1.0, -1.0);
        CHECK.same("temperature: both go", box.temperature(), 58.0 / 4.0);
        box.stuck(1, true);
        CHECK.same("temperature: of one", box.temperature(), 25.0);
        box.speed(1, 1.0, 1.0);
        CHECK.same("temperature: a stuck one's speed counts", box.temperature(), 29.0);
        box.stuck(0, true);
        CHECK.same("temperature: of none", box.temperature(), 0.0);
    }

    /** CUT 8, so that a bin is 4 wide in r2. */
    private static void sampleFillsBins() {
        ParticleBox box = pair(1.0);
        int[][] wayAndBin = {{1, 0}, {2, 1}, {3, 2}, {4, 4}, {5, 6}, {6, 9}, {7, 12}};
        int taken = 0;
        for (int[] it : wayAndBin) {
            box.place(1, 4.0 + it[0], 4.0);
            CHECK.same("sample at " + it[0], box.sample(), 1);
            taken++;
            CHECK.same("sample: how many", box.count(6), taken);
        }
        box.place(1, 4.0 - 7.9375, 4.0);
        CHECK.same("sample at 7.9375", box.sample(), 1);
        box.place(1, 4.0, 12.0);
        CHECK.same("sample at the CUT", box.sample(), 0);
        box.place(1, 4.0, 4.0);
        CHECK.same("sample of an overlap", box.sample(), 1);
        CHECK.same("sample: all of them", box.count(6), 10);
        int[] due = {2, 1, 1, 0, 1, 0, 1, 0, 0, 1, 0, 0, 1, 0, 0, 1};
        for (int bin = 0; bin < due.length; bin++) {
            CHECK.same("bin " + bin, box.bin(0, 1, bin), due[bin]);
            CHECK.same("bin " + bin + " turned", box.bin(1, 0, bin), due[bin]);
            CHECK.same("bin " + bin + " of others", box.bin(0, 0, bin), 0);
        }
    }

    private static void sampleJoinsClasses() {
        ParticleBox box = new ParticleBox(64);
        int[] sorts = {2, 0, 1, 0, 2, 2};
        for (int k = 0; k < sorts.length; k++) {
            box.atom(4.0 + 0.25 * k, 4.0, 1.0, sorts[k]);
        }
        CHECK.same("classes: pairs", box.sample(), 15);
        int[][] due = {{1, 2, 6}, {2, 0, 3}, {6, 3, 3}};
        for (int a = 0; a < 3; a++) {
            for (int b = 0; b < 3; b++) {
                CHECK.same("class " + a + " " + b, box.bin(a, b, 0), due[a][b]);
                CHECK.same("class " + a + " " + b + " bin 1", box.bin(a, b, 1), 0);
            }
        }
        box.sample();
        CHECK.same("classes: added", box.bin(2, 0, 0), 12);
    }

    private static void sampleAtTheCut() {
        ParticleBox box = pair(1.0);
        box.place(1, 6.0, 4.0);
        box.sample();
        box.cut(2.0, 0.0);
        CHECK.same("cut: none", box.sample(), 0);
        box.place(1, Math.nextDown(6.0), 4.0);
        CHECK.same("cut: one", box.sample(), 1);
        CHECK.same("cut: the last bin", box.bin(0, 1, 15), 1);
        CHECK.same("cut: the bin before stays", box.bin(0, 1, 1), 1);
        box.cut(3.0, 0.0);
        CHECK.same("cut: wider", box.sample(), 1);
        CHECK.same("cut: narrower bin", box.bin(0, 1, 7), 1);
        CHECK.same("cut: samples", box.count(6), 4);
    }

    private static void countCounts() {
        ParticleBox box = pair(4.0);
        box.bond(0, 1, 0.0, 1.0);
        box.bond(0, 1, 0.0, 1.0);
        box.bond(0, 1, 0.0, 1.0);
        box.rod(0, 1, 4.0);
        box.cut(0.5, 0.0);
        box.step(4, 8);
        box.speed(0, 0.0, 1.0);
        box.step(1, 128);
        box.sample();
        box.sample();
        int[] due = {2, 3, 1, 5, 2, 1, 2, 0, 0, 0};
        for (int what = 0; what < due.length; what++) {
            CHECK.same("count " + what, box.count(what), due[what]);
        }
    }

    /** Masses 2 and 4, sorts 0 and 1, side by side; SIDE 32 and CUT 8. */
    private static ParticleBox pair(double way) {
        ParticleBox box = new ParticleBox(64);
        box.atom(4.0, 4.0, 2.0, 0);
        box.atom(4.0 + way, 4.0, 4.0, 1);
        return box;
    }
}
