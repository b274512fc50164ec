/** Promise 11: the STEP, its parts, how it fails; and THE LIST, rounds and counts that go with it. */
public final class StepTest {
    private static final Check CHECK = new Check("StepTest");

    public static void main(String[] args) {
        refusesNumbers();
        needsAtoms();
        fliesStraight();
        wrapsPlaces();
        pullsAtBothEnds();
        pullsPairs();
        stepsFollowOneAnother();
        holdsStuckAtoms();
        rodKeepsItsLength();
        rodLeavesSmallFaults();
        rodAlongASlant();
        rodOnStuckAtom();
        rodTellsSpeeds();
        roundsHaveAnEnd();
        stiffWhenAllIsStuck();
        stiffWhenTurnedSquare();
        stiffHasAnEdge();
        stiffWhenLengthsDisagree();
        overlapAtTheBeginning();
        overlapAfterTheWay();
        overlapHasAnEdge();
        blownAfterFirstPush();
        blownAfterRods();
        blownAfterLastPush();
        blownEitherWay();
        blownHasAnEdge();
        failuresGoBackWhole();
        fullBox();
        stepsBeforeAFailureStay();
        listFollowsTheSkin();
        listAcrossTheEdge();
        listWithoutSkin();
        listOfFailedSteps();
        thermostatComesLast();
        CHECK.end();
    }

    private static void refusesNumbers() {
        ParticleBox box = apart();
        box.speed(0, 1.0, 0.0);
        int[][] bad = {{0, 1}, {-1, 1}, {51, 1}, {1, 0}, {1, -1}, {1, 129}, {0, 0},
            {Integer.MAX_VALUE, 1}, {1, Integer.MAX_VALUE}, {Integer.MIN_VALUE, 1},
            {1, Integer.MIN_VALUE}};
        for (int[] nd : bad) {
            CHECK.bad("step(" + nd[0] + ", " + nd[1] + ")", () -> box.step(nd[0], nd[1]));
        }
        CHECK.same("bad: no step", box.count(3), 0);
        CHECK.same("bad: no list", box.count(4), 0);
        CHECK.same("bad: no way", box.told(0, 0), 4.0);
        box.step(50, 1);
        CHECK.same("step(50, 1): steps", box.count(3), 50);
        box.step(1, 128);
        CHECK.same("step(1, 128): way", box.told(0, 0), 4.0 + 50.0 / 1024.0 + 0.125);
    }

    private static void needsAtoms() {
        ParticleBox box = new ParticleBox(24);
        CHECK.refused("no atoms", () -> box.step(1, 1));
        CHECK.bad("no atoms: bad comes first", () -> box.step(0, 1));
        for (int what = 3; what <= 9; what++) {
            CHECK.same("no atoms: count " + what, box.count(what), 0);
        }
    }

    private static void fliesStraight() {
        ParticleBox box = new ParticleBox(64);
        box.atom(10.0, 20.0, 3.0, 0);
        box.speed(0, 8.0, -16.0);
        box.step(1, 128);
        CHECK.same("flight: x", box.told(0, 0), 11.0);
        CHECK.same("flight: y", box.told(0, 1), 18.0);
        CHECK.same("flight: u", box.told(0, 2), 8.0);
        CHECK.same("flight: v", box.told(0, 3), -16.0);
        box.step(4, 1);
        CHECK.same("flight: x after", box.told(0, 0), 11.03125);
        CHECK.same("flight: y after", box.told(0, 1), 17.9375);
        CHECK.same("flight: steps", box.count(3), 5);
        CHECK.same("flight: rounds", box.count(5), 0);
    }

    private static void wrapsPlaces() {
        ParticleBox box = new ParticleBox(24);
        box.atom(11.5, 0.5, 1.0, 0);
        box.speed(0, 8.0, -8.0);
        box.atom(0.25, 5.0, 1.0, 0);
        box.speed(1, -8.0, 0.0);
        box.step(1, 128);
        CHECK.same("wrap: x", box.told(0, 0), 0.5);
        CHECK.same("wrap: y", box.told(0, 1), 11.5);
        CHECK.same("wrap: x of another", box.told(1, 0), 11.25);
        box.speed(0, 1000.0, -1000.0);
        box.step(1, 128);
        CHECK.same("wrap: many times x", box.told(0, 0), 125.5 - 120.0);
        CHECK.same("wrap: many times y", box.told(0, 1), 11.5 - 125.0 + 120.0);
        box.place(0, 0.0, 11.0);
        box.speed(0, -1e-30, 8.0);
        box.step(1, 128);
        CHECK.same("wrap: a hair below 0", box.told(0, 0), 0.0);
        CHECK.same("wrap: at SIDE", box.told(0, 1), 0.0);
    }

    /** A BOND of strength 2 and length 1 over a way of 2: all numbers are exact. */
    private static void pullsAtBothEnds() {
        ParticleBox box = apart();
        box.bond(0, 1, 2.0, 1.0);
        box.step(1, 128);
        double after = 2395470.0 / 262144.0;
        CHECK.same("bond: x of 0", box.told(0, 0), 4.09375);
        CHECK.same("bond: x of 1", box.told(1, 0), 5.953125);
        CHECK.same("bond: u of 0", box.told(0, 2), 0.75 + 0.0625 * after);
        CHECK.same("bond: u of 1", box.told(1, 2), -0.375 - 0.0625 * (after / 2.0));
        CHECK.same("bond: y", box.told(0, 1), 4.0);
        CHECK.same("bond: v", box.told(1, 3), 0.0);
        CHECK.same("bond: one list", box.count(4), 1);
    }

    private static void pullsPairs() {
        ParticleBox box = new ParticleBox(32);
        box.atom(15.5, 4.0, 4.0, 0);
        box.atom(0.5, 5.0, 8.0, 1);
        box.sort(0, 1.0, 2.0, 1.5);
        box.sort(1, 1.5, 3.0, -0.5);
        double dt = 16.0 / 1024.0;
        double before = pullOfPair(2.0);
        double u = 0.5 * dt * (before / 4.0);
        double w = 0.5 * dt * (before * -1.0 / 8.0);
        double x0 = 15.5 + dt * u;
        double y0 = 4.0 + dt * u;
        double x1 = 0.5 + dt * w;
        double y1 = 5.0 + dt * w;
        double a = x1 - x0 + 16.0;
        double b = y1 - y0;
        double after = pullOfPair(a * a + b * b);
        box.step(1, 16);
        CHECK.same("pair: x of 0", box.told(0, 0), x0);
        CHECK.same("pair: y of 0", box.told(0, 1), y0);
        CHECK.same("pair: x of 1", box.told(1, 0), x1);
        CHECK.same("pair: y of 1", box.told(1, 1), y1);
        CHECK.same("pair: u of 0", box.told(0, 2), u + 0.5 * dt * (after * a / 4.0));
        CHECK.same("pair: v of 0", box.told(0, 3), u + 0.5 * dt * (after * b / 4.0));
        CHECK.same("pair: u of 1", box.told(1, 2), w + 0.5 * dt * (after * -a / 8.0));
        CHECK.same("pair: v of 1", box.told(1, 3), w + 0.5 * dt * (after * -b / 8.0));
    }

    /** For the sorts of pullsPairs: width 1.25, depth 2.5, charges -0.75 together. */
    private static double pullOfPair(double r2) {
        double q = 1.25 * 1.25 / r2;
        double p = q * q * q;
        return 24.0 * 2.5 * (p - 2.0 * p * p) / r2 - 2.0 * -0.75 / (r2 * r2);
    }

    private static void stepsFollowOneAnother() {
        ParticleBox one = crowd();
        ParticleBox two = crowd();
        one.step(12, 8);
        for (int k = 0; k < 12; k++) {
            two.step(1, 8);
        }
        CHECK.same("12 steps: count", one.count(3), 12);
        sameState("12 steps", one, two);
    }

    private static void holdsStuckAtoms() {
        ParticleBox box = apart();
        box.bond(0, 1, 2.0, 1.0);
        box.stuck(0, true);
        box.step(1, 128);
        CHECK.same("stuck: x", box.told(0, 0), 4.0);
        CHECK.same("stuck: u", box.told(0, 2), 0.0);
        CHECK.same("stuck: the other is pulled", box.told(1, 0), 5.953125);
        CHECK.same("stuck: steps", box.count(3), 1);
    }

    /** Turned by a right angle in one STEP: each round halves the way that is left along x. */
    private static void rodKeepsItsLength() {
        ParticleBox box = new ParticleBox(64);
        box.cut(0.5, 0.5);
        box.atom(4.0, 4.0, 1.0, 0);
        box.atom(6.0, 4.0, 1.0, 0);
        box.speed(0, 0.0, -8.0);
        box.speed(1, 0.0, 8.0);
        box.rod(0, 1, 2.0);
        box.step(1, 128);
        CHECK.same("rod: rounds", box.count(5), 10);
        CHECK.same("rod: x of 0", box.told(0, 0), 5.0 - 1.0 / 1024.0);
        CHECK.same("rod: x of 1", box.told(1, 0), 5.0 + 1.0 / 1024.0);
        CHECK.same("rod: y of 0", box.told(0, 1), 3.0);
        CHECK.same("rod: y of 1", box.told(1, 1), 5.0);
        CHECK.same("rod: u of 0", box.told(0, 2), 8.0 * (1.0 - 1.0 / 1024.0));
        CHECK.same("rod: u of 1", box.told(1, 2), -8.0 * (1.0 - 1.0 / 1024.0));
        CHECK.same("rod: v of 0", box.told(0, 3), -8.0);
        CHECK.same("rod: v of 1", box.told(1, 3), 8.0);
        CHECK.same("rod: steps", box.count(3), 1);
    }

    private static void rodLeavesSmallFaults() {
        ParticleBox box = apart();
        box.rod(0, 1, 2.0);
        box.step(3, 8);
        CHECK.same("rod that fits: rounds", box.count(5), 0);
        // The first length squared is off 4.0 by a little less than 0.000001 of itself.
        ParticleBox near = apart();
        near.rod(0, 1, 2.000000999);
        near.step(1, 8);
        CHECK.same("rod nearly right: rounds", near.count(5), 0);
        CHECK.same("rod nearly right: x", near.told(0, 0), 4.0);
        ParticleBox far = apart();
        far.rod(0, 1, 2.000001002);
        far.step(1, 8);
        CHECK.same("rod not quite right: rounds", far.count(5), 1);
        CHECK.holds("rod not quite right: x", far.told(0, 0) < 4.0);
        ParticleBox shorter = apart();
        shorter.rod(0, 1, 1.999999001);
        shorter.step(1, 8);
        CHECK.same("rod nearly right, shorter: rounds", shorter.count(5), 0);
    }

    /** One atom of mass 2 and a stuck one, along a slant: the ROD pulls by both parts of its way. */
    private static void rodAlongASlant() {
        ParticleBox box = apart();
        box.place(1, 7.0, 8.0);
        box.stuck(0, true);
        box.rod(0, 1, 4.5);
        box.step(1, 128);
        double a = 3.0;
        double b = 4.0;
        double x = 7.0;
        double y = 8.0;
        int rounds = 0;
        double over = a * a + b * b - 4.5 * 4.5;
        while (over > 0.000001 * 4.5 * 4.5) {
            double g = over / (2.0 * (a * 3.0 + b * 4.0) * 0.5);
            x = x - g * 0.5 * 3.0;
            y = y - g * 0.5 * 4.0;
            a = x - 4.0;
            b = y - 4.0;
            over = a * a + b * b - 4.5 * 4.5;
            rounds++;
        }
        CHECK.same("slant: rounds", box.count(5), rounds);
        CHECK.same("slant: x", box.told(1, 0), x);
        CHECK.same("slant: y", box.told(1, 1), y);
        CHECK.same("slant: u", box.told(1, 2), (x - 7.0) / 0.125);
        CHECK.same("slant: v", box.told(1, 3), (y - 8.0) / 0.125);
        CHECK.same("slant: the stuck one", box.told(0, 1), 4.0);
        ParticleBox turned = apart();
        turned.place(1, 7.0, 8.0);
        turned.stuck(0, true);
        turned.rod(1, 0, 4.5);
        turned.step(1, 128);
        CHECK.same("slant, turned: x", turned.told(1, 0), x);
        CHECK.same("slant, turned: y", turned.told(1, 1), y);
    }

    private static void rodOnStuckAtom() {
        ParticleBox box = apart();
        box.stuck(0, true);
        box.speed(1, 0.0, 8.0);
        box.rod(0, 1, 2.0);
        box.step(1, 128);
        double x = 6.0;
        int rounds = 0;
        for (double over = 1.0; over > 0.000004; over = (x - 4.0) * (x - 4.0) + 1.0 - 4.0) {
            x = x - over / (2.0 * ((x - 4.0) * 2.0) * 0.5) * 0.5 * 2.0;
            rounds++;
        }
        CHECK.same("rod, one stuck: rounds", box.count(5), rounds);
        CHECK.same("rod, one stuck: x of it", box.told(0, 0), 4.0);
        CHECK.same("rod, one stuck: u of it", box.told(0, 2), 0.0);
        CHECK.same("rod, one stuck: x", box.told(1, 0), x);
        CHECK.same("rod, one stuck: y", box.told(1, 1), 5.0);
        CHECK.same("rod, one stuck: u", box.told(1, 2), (x - 6.0) / 0.125);
        CHECK.same("rod, one stuck: v", box.told(1, 3), 8.0);
    }

    /** With a ROD anywhere all speeds come from the ways, and those are rounded. */
    private static void rodTellsSpeeds() {
        ParticleBox box = apart();
        box.atom(20.0, 20.0, 1.0, 0);
        box.speed(2, 0.1, 31.7);
        box.stuck(1, true);
        box.speed(1, 3.0, 0.0);
        box.rod(0, 1, 2.0);
        box.step(1, 7);
        double dt = 7.0 / 1024.0;
        CHECK.same("rod: u of a third", box.told(2, 2), (20.0 + dt * 0.1 - 20.0) / dt);
        CHECK.same("rod: v of a third", box.told(2, 3), (20.0 + dt * 31.7 - 20.0) / dt);
        CHECK.same("rod: u of a stuck one", box.told(1, 2), 3.0);
    }

    /** A light atom between two heavy ones: the lengths were chosen for 39 and for 40 rounds. */
    private static void roundsHaveAnEnd() {
        ParticleBox box = chain(2.0 + 176.0 / 16777216.0);
        box.step(1, 1);
        CHECK.same("39 rounds", box.count(5), 39);
        ParticleBox more = chain(2.0 + 184.0 / 16777216.0);
        CHECK.broken("40 rounds", () -> more.step(1, 1));
        CHECK.same("40 rounds: not counted", more.count(5), 0);
        CHECK.same("40 rounds: stiff", more.count(8), 1);
        CHECK.same("40 rounds: no step", more.count(3), 0);
        CHECK.same("40 rounds: x", more.told(1, 0), 4.0);
        CHECK.same("40 rounds: u", more.told(1, 2), 0.0);
    }

    private static ParticleBox chain(double second) {
        ParticleBox box = new ParticleBox(64);
        box.cut(0.5, 0.5);
        box.atom(2.0, 4.0, 4.0, 0);
        box.atom(4.0, 4.0, 0.125, 0);
        box.atom(6.0, 4.0, 4.0, 0);
        box.rod(0, 1, 2.0);
        box.rod(1, 2, second);
        return box;
    }

    private static void stiffWhenAllIsStuck() {
        ParticleBox box = apart();
        box.stuck(0, true);
        box.stuck(1, true);
        box.rod(0, 1, 2.0);
        box.step(1, 8);
        CHECK.same("stuck rod that fits", box.count(3), 1);
        box.rod(0, 1, 3.0);
        CHECK.broken("stuck rod that does not fit", () -> box.step(1, 8));
        counts("stuck rod", box, new int[] {1, 1, 0, 0, 0, 1, 0});
    }

    private static void stiffWhenTurnedSquare() {
        ParticleBox box = apart();
        box.stuck(0, true);
        box.speed(1, -16.0, 24.0);
        box.rod(0, 1, 2.0);
        CHECK.broken("turned square", () -> box.step(1, 128));
        counts("turned square", box, new int[] {0, 1, 0, 0, 0, 1, 0});
        CHECK.same("turned square: x", box.told(1, 0), 6.0);
        CHECK.same("turned square: y", box.told(1, 1), 4.0);
        CHECK.same("turned square: u", box.told(1, 2), -16.0);
        CHECK.same("turned square: v", box.told(1, 3), 24.0);
    }

    /** Turned to a way of a along x and a hair too short, with mass 64: h is a / 16. */
    private static void stiffHasAnEdge() {
        double[] ways = {1.595e-5, -1.595e-5, 1.605e-5, -1.605e-5};
        for (double a : ways) {
            ParticleBox box = new ParticleBox(64);
            box.cut(0.5, 0.5);
            box.atom(4.0, 4.0, 1.0, 0);
            box.atom(6.0, 4.0, 64.0, 0);
            box.stuck(0, true);
            box.rod(0, 1, 2.0);
            box.speed(1, (a - 2.0) / 0.125, 1.99999895 / 0.125);
            if (a * a < 1.6e-5 * 1.6e-5) {
                CHECK.broken("edge of stiff " + a, () -> box.step(1, 128));
                CHECK.same("edge of stiff " + a, box.count(8), 1);
            } else {
                box.step(1, 128);
                CHECK.holds("edge of stiff " + a, box.count(5) > 1);
            }
        }
    }

    private static void stiffWhenLengthsDisagree() {
        ParticleBox box = apart();
        box.rod(0, 1, 2.0);
        box.step(2, 8);
        box.rod(0, 1, 2.5);
        box.speed(0, 1.0, 0.5);
        CHECK.broken("two lengths", () -> box.step(3, 8));
        counts("two lengths", box, new int[] {2, 1, 0, 0, 0, 1, 0});
        CHECK.same("two lengths: x", box.told(0, 0), 4.0);
        CHECK.same("two lengths: u", box.told(0, 2), 1.0);
        CHECK.broken("two lengths again", () -> box.step(1, 8));
        counts("two lengths again", box, new int[] {2, 2, 0, 0, 0, 2, 0});
    }

    private static void overlapAtTheBeginning() {
        ParticleBox box = apart();
        box.place(1, 4.0, 4.0);
        box.speed(0, 5.0, 0.0);
        CHECK.broken("overlap", () -> box.step(1, 8));
        counts("overlap", box, new int[] {0, 1, 0, 0, 1, 0, 0});
        CHECK.same("overlap: x", box.told(0, 0), 4.0);
        CHECK.same("overlap: u", box.told(0, 2), 5.0);
        box.place(0, 31.99, 31.99);
        box.place(1, 0.01, 0.01);
        CHECK.broken("overlap across the edge", () -> box.step(1, 8));
        counts("overlap across the edge", box, new int[] {0, 2, 0, 0, 2, 0, 0});
    }

    private static void overlapAfterTheWay() {
        ParticleBox box = new ParticleBox(32);
        box.cut(4.0, 0.0);
        box.sort(0, 0.125, 0.0, 0.0);
        box.atom(4.0, 4.0, 1.0, 0);
        box.atom(5.0, 4.0, 1.0, 0);
        box.speed(1, -1000.0, 0.0);
        CHECK.broken("overlap after", () -> box.step(1, 1));
        counts("overlap after", box, new int[] {0, 2, 0, 0, 1, 0, 0});
        CHECK.same("overlap after: x", box.told(1, 0), 5.0);
        CHECK.same("overlap after: u", box.told(1, 2), -1000.0);
        CHECK.same("overlap after: y of the other", box.told(0, 1), 4.0);
        box.step(1, 2);
        CHECK.same("overlap after: past it", box.told(1, 0), 5.0 - 2000.0 / 1024.0);
    }

    private static void overlapHasAnEdge() {
        ParticleBox box = apart();
        box.sort(0, 0.125, 0.0, 0.0);
        box.place(1, 4.03125, 4.0);
        box.step(1, 8);
        CHECK.same("edge of overlap: done", box.count(3), 1);
        box.place(1, Math.nextDown(4.03125), 4.0);
        CHECK.broken("edge of overlap: below", () -> box.step(1, 8));
        CHECK.same("edge of overlap: thrown", box.count(7), 1);
    }

    private static void blownAfterFirstPush() {
        ParticleBox box = near(0.0625);
        CHECK.broken("blown at once", () -> box.step(1, 1));
        counts("blown at once", box, new int[] {0, 1, 0, 0, 0, 0, 1});
        CHECK.same("blown at once: u", box.told(0, 2), 0.0);
        CHECK.same("blown at once: x", box.told(0, 0), 4.0);
    }

    /** The first push gives a speed of some 999935; the ROD adds to it. The way was searched for. */
    private static void blownAfterRods() {
        ParticleBox box = new ParticleBox(64);
        box.cut(8.0, 0.0);
        box.atom(8.0, 4.0, 0.125, 0);
        box.atom(8.0 + 0.4410731077194214, 4.0, 0.125, 0);
        double u = 0.5 * 0.125 * (box.force(1, 0) / 0.125);
        CHECK.holds("blown by a rod: not before", u > 999900.0 && u < 1000000.0);
        box.rod(0, 1, 4.0);
        CHECK.broken("blown by a rod", () -> box.step(1, 128));
        counts("blown by a rod", box, new int[] {0, 1, 0, 0, 0, 0, 1});
        CHECK.same("blown by a rod: x", box.told(0, 0), 8.0);
    }

    private static void blownAfterLastPush() {
        ParticleBox box = near(1.0);
        box.speed(1, -960.0, 0.0);
        CHECK.broken("blown at last", () -> box.step(1, 1));
        counts("blown at last", box, new int[] {0, 2, 0, 0, 0, 0, 1});
        CHECK.same("blown at last: u", box.told(1, 2), -960.0);
        CHECK.same("blown at last: x", box.told(1, 0), 5.0);
    }

    /** Only one of the two atoms can go, and only one way: each sign and each axis alone. */
    private static void blownEitherWay() {
        double[][] ways = {{0.0625, 0.0}, {-0.0625, 0.0}, {0.0, 0.0625}, {0.0, -0.0625}};
        for (double[] way : ways) {
            for (int held = 0; held < 2; held++) {
                String what = "blown along " + way[0] + ", " + way[1] + " without " + held;
                ParticleBox box = near(1.0);
                box.place(1, 4.0 + way[0], 4.0 + way[1]);
                box.stuck(held, true);
                CHECK.broken(what, () -> box.step(1, 1));
                CHECK.same(what, box.count(9), 1);
                CHECK.same(what + ": u", box.told(1 - held, 2), 0.0);
                CHECK.same(what + ": v", box.told(1 - held, 3), 0.0);
            }
        }
    }

    /**
     * Eight strong BONDS and a speed of just what is lacking: 1000000.0 is not BLOWN, a hair more
     * is. The way of that STEP ends beyond the other atom, so that the last push slows it.
     */
    private static void blownHasAnEdge() {
        for (int axis = 0; axis < 2; axis++) {
            for (double sign = -1.0; sign <= 1.0; sign += 2.0) {
                String what = "edge of blown " + axis + " " + sign;
                ParticleBox box = edgeOfBlown(axis, sign, 0.0);
                box.step(1, 127);
                CHECK.same(what + ": done", box.count(3), 1);
                ParticleBox more = edgeOfBlown(axis, sign, sign * 1e-9);
                CHECK.broken(what, () -> more.step(1, 127));
                CHECK.same(what + ": at once", more.count(4), 1);
                CHECK.same(what + ": blown", more.count(9), 1);
            }
        }
    }

    private static ParticleBox edgeOfBlown(int axis, double sign, double more) {
        ParticleBox box = new ParticleBox(64);
        box.cut(0.5, 0.0);
        double way = sign * 15.9375;
        box.atom(16.0, 16.0, 0.125, 0);
        box.atom(16.0 + (axis == 0 ? way : 0.0), 16.0 + (axis == 1 ? way : 0.0), 1.0, 0);
        box.stuck(1, true);
        for (int k = 0; k < 8; k++) {
            box.bond(0, 1, 62.25, 0.125);
        }
        double push = 0.5 * (127.0 / 1024.0) * (box.force(0, axis) / 0.125);
        double lacking = sign * 1000000.0 - push;
        CHECK.same("edge of blown: exact", lacking + push, sign * 1000000.0);
        double given = lacking + more;
        box.speed(0, axis == 0 ? given : 0.0, axis == 1 ? given : 0.0);
        return box;
    }

    /** Whatever fails, both parts of the places and of the speeds of all atoms go back. */
    private static void failuresGoBackWhole() {
        ParticleBox box = apart();
        box.bond(0, 1, 1.0, 3.0);
        box.atom(20.0, 20.0, 1.0, 1);
        box.atom(20.0, 21.0, 1.0, 1);
        for (int i = 0; i < 4; i++) {
            box.speed(i, 1.5 - i, 0.5 + i);
        }
        box.rod(2, 3, 1.0);
        box.rod(3, 2, 1.5);
        double[][] before = new double[4][4];
        for (int i = 0; i < 4; i++) {
            for (int k = 0; k < 4; k++) {
                before[i][k] = box.told(i, k);
            }
        }
        CHECK.broken("goes back", () -> box.step(1, 128));
        for (int i = 0; i < 4; i++) {
            for (int k = 0; k < 4; k++) {
                CHECK.same("goes back: told " + i + " " + k, box.told(i, k), before[i][k]);
            }
        }
    }

    /** All rows full: ten atoms, eight BONDS, four RODS. */
    private static void fullBox() {
        ParticleBox box = new ParticleBox(64);
        for (int i = 0; i < 10; i++) {
            box.atom(3.0 * i, 2.0, 1.0, i % 3);
            box.speed(i, 0.0, 1.0);
        }
        for (int k = 0; k < 8; k++) {
            box.bond(k, k + 2, 0.0, 6.0);
        }
        for (int k = 0; k < 4; k++) {
            box.rod(k, k + 1, 3.0);
        }
        box.cut(2.0, 1.0);
        box.thermostat(1.0);
        box.step(50, 8);
        CHECK.same("full: steps", box.count(3), 50);
        CHECK.same("full: energy of pairs", box.energy(0), 0.0);
        CHECK.same("full: energy of bonds", box.energy(1), 0.0);
        CHECK.same("full: force", box.force(9, 1), 0.0);
        CHECK.holds("full: energy of motion", box.energy(2) > 9.99 && box.energy(2) < 10.01);
        CHECK.same("full: pairs", box.sample(), 0);
        for (int i = 0; i < 10; i++) {
            CHECK.same("full: x of " + i, box.told(i, 0), 3.0 * i);
            CHECK.holds("full: v of " + i, box.told(i, 3) > 1.41 && box.told(i, 3) < 1.42);
        }
    }

    private static void stepsBeforeAFailureStay() {
        ParticleBox box = towards();
        ParticleBox twin = towards();
        CHECK.broken("fails in the third", () -> box.step(5, 4));
        counts("fails in the third", box, new int[] {2, 4, 0, 0, 1, 0, 0});
        twin.step(2, 4);
        sameState("fails in the third", box, twin);
        CHECK.same("fails in the third: the twin's lists", twin.count(4), 3);
    }

    /** Meets the other atom in the third STEP, by ways of 1.0. */
    private static ParticleBox towards() {
        ParticleBox box = new ParticleBox(32);
        box.cut(0.5, 0.0);
        box.atom(4.0, 4.0, 1.0, 0);
        box.atom(7.0, 4.0, 1.0, 0);
        box.speed(1, -256.0, 0.0);
        return box;
    }

    private static void listFollowsTheSkin() {
        ParticleBox box = apart();
        box.cut(0.5, 1.0);
        box.speed(0, 2.0, 0.0);
        box.step(2, 128);
        CHECK.same("skin: at half of it", box.count(4), 1);
        box.step(1, 1);
        CHECK.same("skin: above half of it", box.count(4), 2);
        box.step(2, 128);
        CHECK.same("skin: from the new place", box.count(4), 2);
        box.step(1, 1);
        CHECK.same("skin: above it again", box.count(4), 3);
        box.speed(0, 0.0, 0.0);
        box.speed(1, 0.0, -1000.0);
        box.step(1, 1);
        CHECK.same("skin: another atom, along y", box.count(4), 4);
        box.speed(1, 0.0, 0.0);
        box.step(5, 1);
        CHECK.same("skin: at rest", box.count(4), 4);
    }

    private static void listAcrossTheEdge() {
        ParticleBox box = new ParticleBox(24);
        box.atom(11.9375, 0.0625, 1.0, 0);
        box.speed(0, 1.0, -1.0);
        box.step(1, 128);
        CHECK.same("edge: x", box.told(0, 0), 0.0625);
        CHECK.same("edge: y", box.told(0, 1), 11.9375);
        CHECK.same("edge: not far", box.count(4), 1);
    }

    private static void listWithoutSkin() {
        ParticleBox box = apart();
        box.cut(0.5, 0.0);
        box.step(3, 8);
        CHECK.same("no skin: at rest", box.count(4), 1);
        box.speed(0, 0.5, 0.0);
        box.step(3, 8);
        CHECK.same("no skin: each step", box.count(4), 4);
    }

    private static void listOfFailedSteps() {
        ParticleBox box = near(0.0625);
        for (int k = 1; k <= 3; k++) {
            CHECK.broken("failed list", () -> box.step(2, 1));
            CHECK.same("failed list: each time", box.count(4), k);
        }
        box.sort(0, 0.125, 0.0, 0.0);
        box.step(2, 1);
        CHECK.same("failed list: made anew once", box.count(4), 4);
        CHECK.same("failed list: blown", box.count(9), 3);
    }

    /** The THERMOSTAT takes the TEMPERATURE after the last push, and takes the speeds alone. */
    private static void thermostatComesLast() {
        ParticleBox box = apart();
        box.bond(0, 1, 2.0, 1.0);
        ParticleBox twin = apart();
        twin.bond(0, 1, 2.0, 1.0);
        box.thermostat(3.0);
        box.step(1, 64);
        twin.step(1, 64);
        twin.scale(3.0);
        sameState("thermostat", box, twin);
        box.step(4, 64);
        for (int k = 0; k < 4; k++) {
            twin.step(1, 64);
            twin.scale(3.0);
        }
        sameState("thermostat in each step", box, twin);
    }

    /** Counts 3 to 9 but for 6: steps, lists, rounds, (samples), overlaps, stiff, blown. */
    private static void counts(String what, ParticleBox box, int[] due) {
        for (int k = 0; k < due.length; k++) {
            CHECK.same(what + ": count " + (3 + k), box.count(3 + k), due[k]);
        }
    }

    private static void sameState(String what, ParticleBox one, ParticleBox two) {
        for (int i = 0; i < one.count(0); i++) {
            for (int k = 0; k < 4; k++) {
                CHECK.same(what + ": told " + i + " " + k, one.told(i, k), two.told(i, k));
            }
        }
    }

    /** Two atoms 2.0 apart, masses 1 and 2, that make no PAIR. */
    private static ParticleBox apart() {
        ParticleBox box = new ParticleBox(64);
        box.cut(0.5, 0.5);
        box.atom(4.0, 4.0, 1.0, 0);
        box.atom(6.0, 4.0, 2.0, 0);
        return box;
    }

    private static ParticleBox near(double way) {
        ParticleBox box = new ParticleBox(32);
        box.cut(4.0, 0.0);
        box.atom(4.0, 4.0, 8.0, 0);
        box.atom(4.0 + way, 4.0, 8.0, 0);
        return box;
    }

    private static ParticleBox crowd() {
        ParticleBox box = new ParticleBox(24);
        for (int i = 0; i < 6; i++) {
            box.atom(2.0 + 1.5 * (i % 3), 3.0 + 1.4 * (i / 3), 1.0 + i, i % 3);
            box.speed(i, 0.5 - 0.25 * i, 0.3 * i);
        }
        box.sort(1, 0.9, 1.5, 0.5);
        box.sort(2, 1.1, 0.7, -0.5);
        box.bond(0, 5, 0.5, 3.0);
        box.rod(0, 1, 1.5);
        box.thermostat(2.0);
        return box;
    }
}
