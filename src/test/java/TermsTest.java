/**
 * The edges that the document's terms name: FLOOR, WRAPPED, NEAREST, ROOT, PAIR, OVERLAP, BOND,
 * TEMPERATURE and SAMPLE, each at the edge itself and at the nearest number on either side. (Those
 * of a STEP, of RODS and of THE LIST are in StepEndsTest.)
 */
public final class TermsTest {
    private static final Check CHECK = new Check("TermsTest");

    public static void main(String[] args) {
        wrappedAtWholeSides();
        wrappedJustBelowZero();
        wrappedByAStep();
        wrappedStuckAtoms();
        nearestOfAHalf();
        nearestOfAHalfInEnergies();
        rootOfNothing();
        rootTakesFortyTurns();
        sortsAtFirst();
        pairEndsAtTheCut();
        pairEndsAtTheCutAlongASlant();
        pairAcrossTheEdges();
        overlapHasAnEdge();
        overlapAcrossTheEdges();
        overlapOfTheLastTwo();
        bondAtItsOwnLength();
        temperatureOfNoneLoose();
        scaleOfTheSlow();
        thermostatOfTheSlow();
        binsBeginAtTheirEdge();
        binsEndAtTheCut();
        binOfAnOverlap();
        pairsOfAFullBox();
        CHECK.end();
    }

    /** "WRAPPED(x) is x - SIDE * FLOOR(x / SIDE)": FLOOR of whole numbers and of their neighbours. */
    private static void wrappedAtWholeSides() {
        for (int k = -83; k <= 83; k++) {
            double z = 12.0 * k;
            wraps(z, 0.0);
            wraps(Math.nextUp(z), Math.nextUp(z) - z);
            wraps(z + 0.5, 0.5);
            wraps(z - 0.5, 11.5);
            if (k != 0) {
                wraps(Math.nextDown(z), Math.nextDown(z) - (z - 12.0));
            }
        }
        wraps(-0.0, 0.0);
        wraps(Math.nextDown(12.0), Math.nextDown(12.0));
        wraps(1000.0, 4.0);
        wraps(-1000.0, 8.0);
    }

    /** "or 0.0 if that is not below SIDE": half of the last digit below 12.0 is 2^-50. */
    private static void wrappedJustBelowZero() {
        double half = 1.0 / (1L << 50);
        wraps(-1e-300, 0.0);
        wraps(-1e-30, 0.0);
        wraps(Math.nextUp(-half), 0.0);
        wraps(-half, 0.0);
        wraps(Math.nextDown(-half), Math.nextDown(12.0));
        wraps(-2.0 * half, Math.nextDown(12.0));
    }

    /** By atom and by place, along x and along y, in a box with SIDE 12.0. */
    private static void wraps(double z, double due) {
        ParticleBox box = new ParticleBox(24);
        box.atom(z, 1.0, 1.0, 0);
        box.atom(1.0, z, 1.0, 0);
        CHECK.same("atom: x of " + z, box.told(0, 0), due);
        CHECK.same("atom: y of " + z, box.told(1, 1), due);
        box.place(0, 2.0, z);
        box.place(1, z, 2.0);
        CHECK.same("place: y of " + z, box.told(0, 1), due);
        CHECK.same("place: x of " + z, box.told(1, 0), due);
    }

    /** "The places become x', y' WRAPPED". */
    private static void wrappedByAStep() {
        double half = 1.0 / (1L << 50);
        double last = Math.nextDown(12.0);
        flies(11.5, 0.5 - Math.ulp(11.5), last);
        flies(11.5, 0.5, 0.0);
        flies(11.5, 0.5 + Math.ulp(12.0), Math.ulp(12.0));
        flies(0.0, -half, 0.0);
        flies(0.0, Math.nextDown(-half), last);
        flies(0.0, 0.0, 0.0);
        flies(0.0, 12.0, 0.0);
        flies(0.0, -12.0, 0.0);
        flies(0.0, last, last);
        flies(0.0, 120.0, 0.0);
        flies(0.0, -120.5, 11.5);
    }

    private static void flies(double from, double way, double due) {
        ParticleBox box = new ParticleBox(24);
        box.atom(from, 3.0, 1.0, 0);
        box.atom(6.0, from, 1.0, 0);
        box.cut(0.5, 0.5);
        box.speed(0, way * 8.0, 0.0);
        box.speed(1, 0.0, way * 8.0);
        box.step(1, 128);
        CHECK.same("step: x of " + from + " + " + way, box.told(0, 0), due);
        CHECK.same("step: y of " + from + " + " + way, box.told(1, 1), due);
    }

    private static void wrappedStuckAtoms() {
        ParticleBox box = new ParticleBox(24);
        box.atom(0.0, Math.nextDown(12.0), 1.0, 0);
        box.stuck(0, true);
        box.speed(0, 1.0, 1.0);
        box.step(50, 128);
        CHECK.same("stuck at the edge: x", box.told(0, 0), 0.0);
        CHECK.same("stuck at the edge: y", box.told(0, 1), Math.nextDown(12.0));
    }

    /**
     * "NEAREST(z) is FLOOR(z + 0.5)": a way of half the SIDE goes back, for both atoms. So does the
     * last number below it, for z + 0.5 is 1.0 in double; but not the one before that.
     */
    private static void nearestOfAHalf() {
        double below = Math.nextDown(16.0);
        double[] way = {8.0, Math.nextDown(below), below, 16.0, Math.nextUp(16.0), 24.0};
        int[] seenFromFirst = {1, 1, -1, -1, -1, -1};
        int[] seenFromSecond = {-1, -1, -1, -1, 1, 1};
        for (int k = 0; k < way.length; k++) {
            for (int axis = 0; axis < 2; axis++) {
                ParticleBox box = halfWay(way[k], axis);
                String what = "nearest, " + way[k] + " along " + axis;
                CHECK.same(what + ", of 0", Math.signum(box.force(0, axis)), seenFromFirst[k]);
                CHECK.same(what + ", of 1", Math.signum(box.force(1, axis)), seenFromSecond[k]);
                CHECK.same(what + ", other axis", box.force(0, 1 - axis), 0.0);
            }
        }
        ParticleBox box = halfWay(16.0, 0);
        CHECK.same("nearest of a half: pull on 0", box.force(0, 0), 0.5 * 240.0 * -16.0);
        CHECK.same("nearest of a half: pull on 1", box.force(1, 0), 0.5 * 240.0 * -16.0);
    }

    private static void nearestOfAHalfInEnergies() {
        for (int axis = 0; axis < 2; axis++) {
            ParticleBox box = halfWay(15.0, axis);
            box.cut(16.0, 0.5);
            CHECK.same("below half the SIDE: energy", box.energy(1), 0.125 * 209.0 * 209.0);
            CHECK.same("below half the SIDE: a pair", box.sample(), 1);
            place(box, 16.0, axis);
            CHECK.same("half the SIDE: energy", box.energy(1), 0.125 * 240.0 * 240.0);
            CHECK.same("half the SIDE: no pair", box.sample(), 0);
            place(box, 17.0, axis);
            CHECK.same("above half the SIDE: energy", box.energy(1), 0.125 * 209.0 * 209.0);
            CHECK.same("above half the SIDE: a pair", box.sample(), 1);
        }
    }

    /** Two atoms joined by a BOND of length 4 in a box with SIDE 32. */
    private static ParticleBox halfWay(double way, int axis) {
        ParticleBox box = new ParticleBox(64);
        box.cut(0.5, 0.5);
        box.atom(0.0, 0.0, 1.0, 0);
        box.atom(1.0, 1.0, 1.0, 0);
        place(box, way, axis);
        box.bond(0, 1, 0.5, 4.0);
        return box;
    }

    private static void place(ParticleBox box, double way, int axis) {
        box.place(1, axis == 0 ? way : 0.0, axis == 1 ? way : 0.0);
    }

    /** "ROOT(z): 0.0 for 0.0". */
    private static void rootOfNothing() {
        CHECK.same("root of 0.0", scaled(0.0), 0.0);
        CHECK.same("root of -0.0", scaled(-0.0), 0.0);
        CHECK.holds("root of the least", scaled(Double.MIN_VALUE) > 4e-13);
        CHECK.same("root of 1.0", scaled(1.0), 1.0);
    }

    /** "and then, 40 times": ROOT of a tiny number is still on its way down, by a half each turn. */
    private static void rootTakesFortyTurns() {
        double r = 0.5;
        for (int turn = 1; turn <= 40; turn++) {
            r = r * 0.5;
        }
        CHECK.same("root: forty turns", scaled(1e-300), r);
        CHECK.same("root of 4.0", scaled(4.0), 2.0);
        CHECK.same("root of 0.25", scaled(0.25), 0.5);
        CHECK.same("root of 900.0", scaled(900.0), 30.0);
    }

    /** A speed of 1.0 times ROOT(z): TEMPERATURE is 1.0 before. */
    private static double scaled(double z) {
        ParticleBox box = new ParticleBox(64);
        box.atom(4.0, 4.0, 2.0, 0);
        box.speed(0, 1.0, 0.0);
        CHECK.same("scale: before", box.scale(z), 1.0);
        return box.told(0, 2);
    }

    /** "a WIDTH (1.0 at first), a DEPTH (1.0) and a CHARGE (0.0)". */
    private static void sortsAtFirst() {
        double p = 1.0 / 64.0;
        for (int a = 0; a < 3; a++) {
            for (int b = 0; b < 3; b++) {
                ParticleBox box = new ParticleBox(64);
                box.atom(4.0, 4.0, 1.0, a);
                box.atom(6.0, 4.0, 1.0, b);
                String what = "sorts " + a + " and " + b;
                CHECK.same(what + ": energy", box.energy(0), 4.0 * (p * p - p));
                CHECK.same(what + ": force", box.force(0, 0), 24.0 * (p - 2.0 * p * p) / 4.0 * 2.0);
            }
        }
    }

    /** "A PAIR is two atoms with r2 below CUT * CUT". */
    private static void pairEndsAtTheCut() {
        double[] cuts = {0.5, 2.0, 3.0, 8.0, 16.0};
        for (double cut : cuts) {
            for (int axis = 0; axis < 2; axis++) {
                ParticleBox box = charged(cut);
                if (cut < 16.0) {
                    isPair("below the CUT " + cut, box, Math.nextDown(cut), axis, true);
                    isPair("above the CUT " + cut, box, Math.nextUp(cut), axis, false);
                } else {
                    isPair("well below the CUT " + cut, box, 15.9375, axis, true);
                }
                isPair("at the CUT " + cut, box, cut, axis, false);
            }
        }
    }

    private static void isPair(String what, ParticleBox box, double way, int axis, boolean due) {
        place(box, way, axis);
        CHECK.same(what + ": sample", box.sample(), due ? 1 : 0);
        CHECK.holds(what + ": force", box.force(0, axis) != 0.0 == due);
        CHECK.holds(what + ": energy", box.energy(0) != 0.0 == due);
        box.step(1, 1);
        CHECK.holds(what + ": step", box.told(1, 2 + axis) != 0.0 == due);
        box.speed(1, 0.0, 0.0);
    }

    /** A stuck atom and another, with a CHARGE of 8.0 and a DEPTH that tells even far off. */
    private static ParticleBox charged(double cut) {
        ParticleBox box = new ParticleBox(64);
        box.cut(cut, 0.5);
        box.sort(0, 0.25, 64.0, 8.0);
        box.atom(0.0, 0.0, 1.0, 0);
        box.atom(1.0, 1.0, 64.0, 0);
        box.stuck(0, true);
        return box;
    }

    private static void pairEndsAtTheCutAlongASlant() {
        ParticleBox box = charged(5.0);
        box.place(1, 3.0, 4.0);
        CHECK.same("slant at the CUT", box.sample(), 0);
        CHECK.same("slant at the CUT: energy", box.energy(0), 0.0);
        box.place(1, 3.0, Math.nextDown(4.0));
        CHECK.same("slant below the CUT", box.sample(), 1);
        CHECK.holds("slant below the CUT: force", box.force(0, 1) != 0.0);
        box.place(1, 3.0, Math.nextUp(4.0));
        CHECK.same("slant above the CUT", box.sample(), 0);
    }

    private static void pairAcrossTheEdges() {
        ParticleBox box = charged(2.0);
        for (int axis = 0; axis < 2; axis++) {
            isPair("across: at the CUT", box, -2.0, axis, false);
            isPair("across: below the CUT", box, -2.0 + Math.ulp(16.0), axis, true);
            isPair("across: above the CUT", box, -2.0 - Math.ulp(16.0), axis, false);
        }
    }

    /** "OVERLAP: r2 of any two atoms is below 0.0009765625", which is 0.03125 * 0.03125. */
    private static void overlapHasAnEdge() {
        for (int axis = 0; axis < 2; axis++) {
            overlaps("below", Math.nextDown(0.03125), axis, true);
            overlaps("at the edge", 0.03125, axis, false);
            overlaps("above", Math.nextUp(0.03125), axis, false);
            overlaps("at one place", 0.0, axis, true);
        }
    }

    private static void overlapAcrossTheEdges() {
        for (int axis = 0; axis < 2; axis++) {
            overlaps("across, below", -0.03125 + Math.ulp(16.0), axis, true);
            overlaps("across, at the edge", -0.03125, axis, false);
            overlaps("across, above", -0.03125 - Math.ulp(16.0), axis, false);
        }
    }

    private static void overlaps(String what, double way, int axis, boolean due) {
        String name = "overlap, " + what + ", along " + axis;
        ParticleBox box = new ParticleBox(64);
        box.sort(0, 0.125, 0.0, 0.0);
        box.atom(0.0, 0.0, 1.0, 0);
        box.atom(1.0, 1.0, 1.0, 0);
        place(box, way, axis);
        breaks(name + ": energy 0", due, () -> box.energy(0));
        breaks(name + ": energy 1", due, () -> box.energy(1));
        breaks(name + ": energy 2", false, () -> box.energy(2));
        breaks(name + ": force", due, () -> box.force(0, 0));
        breaks(name + ": sample", false, () -> box.sample());
        CHECK.same(name + ": only step counts it", box.count(7), 0);
        breaks(name + ": step", due, () -> box.step(1, 1));
        CHECK.same(name + ": counted", box.count(7), due ? 1 : 0);
        CHECK.same(name + ": done", box.count(3), due ? 0 : 1);
    }

    private static void breaks(String what, boolean due, Runnable call) {
        if (due) {
            CHECK.broken(what, call);
        } else {
            call.run();
        }
    }

    private static void overlapOfTheLastTwo() {
        for (int i = 0; i < 10; i++) {
            for (int j = 0; j < 10; j++) {
                if (i != j) {
                    ParticleBox box = Twins.full();
                    box.place(i, box.told(j, 0), box.told(j, 1) + 0.015625);
                    String what = "overlap of " + i + " on " + j;
                    CHECK.broken(what + ": energy", () -> box.energy(0));
                    CHECK.broken(what + ": force", () -> box.force(0, 0));
                    CHECK.broken(what + ": step", () -> box.step(1, 1));
                }
            }
        }
    }

    private static void bondAtItsOwnLength() {
        double[] way = {Math.nextDown(3.0), 3.0, Math.nextUp(3.0)};
        for (int k = 0; k < way.length; k++) {
            ParticleBox box = halfWay(way[k], 0);
            box.bond(0, 1, 0.0, 8.0);
            double first = box.force(0, 0);
            box.bond(1, 0, 64.0, 3.0);
            CHECK.same("bond at " + way[k], Math.signum(box.force(0, 0) - first), k - 1);
        }
    }

    /** "divided by (2.0 * the number of atoms that are not STUCK); 0.0 if there are none of these". */
    private static void temperatureOfNoneLoose() {
        ParticleBox box = new ParticleBox(24);
        CHECK.same("temperature: no atoms", box.temperature(), 0.0);
        for (int i = 0; i < 10; i++) {
            box.atom(1.0 * i, 0.0, 2.0, 0);
            box.speed(i, 3.0, 4.0);
            CHECK.same("temperature: of " + (i + 1), box.temperature(), 25.0);
        }
        for (int i = 0; i < 9; i++) {
            box.stuck(i, true);
            CHECK.same("temperature: loose are " + (9 - i), box.temperature(), 25.0);
        }
        box.speed(0, 1.0, 0.0);
        CHECK.same("temperature: one loose", box.temperature(), 26.0);
        box.stuck(9, true);
        CHECK.same("temperature: none loose", box.temperature(), 0.0);
        CHECK.same("temperature: none loose, scale", box.scale(1000.0), 0.0);
        CHECK.same("temperature: none loose, u", box.told(0, 2), 1.0);
        box.stuck(9, false);
        CHECK.same("temperature: loose but at rest", box.temperature(), 1.0);
    }

    /** "if TEMPERATURE is below 0.000001 nothing. Answers TEMPERATURE before." */
    private static void scaleOfTheSlow() {
        for (int side = -1; side <= 1; side++) {
            ParticleBox box = slow(side);
            CHECK.same("slow: answers", box.scale(9.0), nextTo(0.000001, side));
            CHECK.holds("slow: " + side, side < 0 ? box.told(0, 2) == 0.001 : near3(box));
        }
    }

    /** "8 If the THERMOSTAT is on: as scale with its temperature." */
    private static void thermostatOfTheSlow() {
        for (int side = -1; side <= 1; side++) {
            ParticleBox box = slow(side);
            box.thermostat(9.0);
            box.step(1, 1);
            CHECK.holds("slow step: " + side, side < 0 ? box.told(0, 2) == 0.001 : near3(box));
        }
    }

    /** With TEMPERATURE 0.000001, or the nearest number on either side of it. */
    private static ParticleBox slow(int side) {
        ParticleBox box = new ParticleBox(64);
        box.atom(4.0, 4.0, nextTo(2.0, side), 0);
        box.speed(0, 0.001, 0.0);
        CHECK.same("slow: met", box.temperature(), nextTo(0.000001, side));
        return box;
    }

    private static double nextTo(double z, int side) {
        return side < 0 ? Math.nextDown(z) : side > 0 ? Math.nextUp(z) : z;
    }

    private static boolean near3(ParticleBox box) {
        return Math.abs(box.told(0, 2) - 3.0) < 1e-9;
    }

    /** "in the bin FLOOR(r2 / (CUT * CUT / 16.0))": with CUT 4.0 the bin k begins at r2 = k. */
    private static void binsBeginAtTheirEdge() {
        for (int bin = 1; bin <= 15; bin++) {
            double a = Math.floor(Math.sqrt(bin) * 16777216.0) / 16777216.0;
            double b = Math.sqrt(bin - a * a);
            CHECK.same("bin " + bin + ": the edge is met", a * a + b * b, bin);
            inBin("at the edge", a, b, bin);
            inBin("below the edge", a - 1.0 / 67108864.0, b, bin - 1);
            inBin("above the edge", a + 1.0 / 67108864.0, b, bin);
        }
    }

    /** r2 of the last number below CUT is in the last bin: there is none above 15. */
    private static void binsEndAtTheCut() {
        inBin("below the CUT", Math.nextDown(4.0), 0.0, 15);
        inBin("below the CUT, along y", 0.0, Math.nextDown(4.0), 15);
        ParticleBox box = new ParticleBox(64);
        box.atom(0.0, 0.0, 1.0, 0);
        box.atom(1.0, 1.0, 1.0, 0);
        for (double cut = 0.5; cut <= 16.0; cut += 0.7) {
            box.cut(cut, 0.0);
            box.place(1, Math.nextDown(cut), 0.0);
            int before = box.bin(0, 0, 15);
            box.sample();
            CHECK.same("below the CUT " + cut, box.bin(0, 0, 15), before + 1);
        }
    }

    private static void binOfAnOverlap() {
        inBin("at one place", 0.0, 0.0, 0);
        inBin("overlap", 0.015625, 0.0, 0);
        inBin("below the first edge", Math.nextDown(1.0), 0.0, 0);
        inBin("at the first edge", 1.0, 0.0, 1);
    }

    /** "Answers how many PAIRS there were": 45 of ten atoms are the most. */
    private static void pairsOfAFullBox() {
        ParticleBox box = new ParticleBox(64);
        for (int i = 0; i < 10; i++) {
            CHECK.same("pairs of " + i, box.sample(), i * (i - 1) / 2);
            box.atom(0.5 * i, 0.0, 1.0, 1);
        }
        CHECK.same("pairs of ten", box.sample(), 45);
        CHECK.same("pairs of ten: samples", box.count(6), 11);
        int sum = 0;
        for (int bin = 0; bin < 16; bin++) {
            sum += box.bin(1, 1, bin);
        }
        CHECK.same("pairs of ten: in all bins", sum, 165);
    }

    private static void inBin(String what, double a, double b, int due) {
        ParticleBox box = new ParticleBox(64);
        box.cut(4.0, 0.5);
        box.atom(0.0, 0.0, 1.0, 2);
        box.atom(a, b, 1.0, 1);
        CHECK.same(what + " of bin " + due + ": pairs", box.sample(), 1);
        for (int bin = 0; bin < 16; bin++) {
            CHECK.same(what + " of bin " + due + ": bin " + bin, box.bin(1, 2, bin),
                    bin == due ? 1 : 0);
            CHECK.same(what + ": turned", box.bin(2, 1, bin), bin == due ? 1 : 0);
        }
    }
}
