/** Promise 11: the parts of a STEP that ends well. (StepEndsTest holds the others, and THE LIST.) */
public final class StepTest {
    private static final Check CHECK = new Check("StepTest");

    public static void main(String[] args) {
        fliesStraight();
        pullsAtBothEnds();
        pullsPairs();
        stepsFollowOneAnother();
        holdsStuckAtoms();
        rodKeepsItsLength();
        rodAcrossTheEdges();
        rodAlongASlant();
        rodOnStuckAtom();
        rodTellsSpeeds();
        fullBox();
        thermostatComesLast();
        CHECK.end();
    }

    private static void fliesStraight() {
        ParticleBox box = new ParticleBox(64);
        box.atom(10.0, 20.0, 3.0, 0);
        box.speed(0, 8.0, -16.0);
        box.step(1, 128);
        CHECK.same("flight: x", box.told(0, 0), 11.0);
        CHECK.same("flight: y", box.told(0, 1), 18.0);
        CHECK.same("flight: u", box.told(0, 2), 8.0);
        CHECK.same("flight: v", box.told(0, 3), -16.0);
        box.step(4, 1);
        CHECK.same("flight: x after", box.told(0, 0), 11.03125);
        CHECK.same("flight: y after", box.told(0, 1), 17.9375);
        CHECK.same("flight: steps", box.count(3), 5);
        CHECK.same("flight: rounds", box.count(5), 0);
    }

    /** A BOND of strength 2 and length 1 over a way of 2: all numbers are exact. */
    private static void pullsAtBothEnds() {
        ParticleBox box = apart();
        box.bond(0, 1, 2.0, 1.0);
        box.step(1, 128);
        double after = 2395470.0 / 262144.0;
        CHECK.same("bond: x of 0", box.told(0, 0), 4.09375);
        CHECK.same("bond: x of 1", box.told(1, 0), 5.953125);
        CHECK.same("bond: u of 0", box.told(0, 2), 0.75 + 0.0625 * after);
        CHECK.same("bond: u of 1", box.told(1, 2), -0.375 - 0.0625 * (after / 2.0));
        CHECK.same("bond: y", box.told(0, 1), 4.0);
        CHECK.same("bond: v", box.told(1, 3), 0.0);
        CHECK.same("bond: one list", box.count(4), 1);
    }

    private static void pullsPairs() {
        ParticleBox box = new ParticleBox(32);
        box.atom(15.5, 4.0, 4.0, 0);
        box.atom(0.5, 5.0, 8.0, 1);
        box.sort(0, 1.0, 2.0, 1.5);
        box.sort(1, 1.5, 3.0, -0.5);
        double dt = 16.0 / 1024.0;
        double before = pullOfPair(2.0);
        double u = 0.5 * dt * (before / 4.0);
        double w = 0.5 * dt * (before * -1.0 / 8.0);
        double x0 = 15.5 + dt * u;
        double y0 = 4.0 + dt * u;
        double x1 = 0.5 + dt * w;
        double y1 = 5.0 + dt * w;
        double a = x1 - x0 + 16.0;
        double b = y1 - y0;
        double after = pullOfPair(a * a + b * b);
        box.step(1, 16);
        CHECK.same("pair: x of 0", box.told(0, 0), x0);
        CHECK.same("pair: y of 0", box.told(0, 1), y0);
        CHECK.same("pair: x of 1", box.told(1, 0), x1);
        CHECK.same("pair: y of 1", box.told(1, 1), y1);
        CHECK.same("pair: u of 0", box.told(0, 2), u + 0.5 * dt * (after * a / 4.0));
        CHECK.same("pair: v of 0", box.told(0, 3), u + 0.5 * dt * (after * b / 4.0));
        CHECK.same("pair: u of 1", box.told(1, 2), w + 0.5 * dt * (after * -a / 8.0));
        CHECK.same("pair: v of 1", box.told(1, 3), w + 0.5 * dt * (after * -b / 8.0));
    }

    /** For the sorts of pullsPairs: width 1.25, depth 2.5, charges -0.75 together. */
    private static double pullOfPair(double r2) {
        double q = 1.25 * 1.25 / r2;
        double p = q * q * q;
        return 24.0 * 2.5 * (p - 2.0 * p * p) / r2 - 2.0 * -0.75 / (r2 * r2);
    }

    private static void stepsFollowOneAnother() {
        ParticleBox one = crowd();
        ParticleBox two = crowd();
        one.step(12, 8);
        for (int k = 0; k < 12; k++) {
            two.step(1, 8);
        }
        CHECK.same("12 steps: count", one.count(3), 12);
        sameState("12 steps", one, two);
    }

    private static void holdsStuckAtoms() {
        ParticleBox box = apart();
        box.bond(0, 1, 2.0, 1.0);
        box.stuck(0, true);
        box.step(1, 128);
        CHECK.same("stuck: x", box.told(0, 0), 4.0);
        CHECK.same("stuck: u", box.told(0, 2), 0.0);
        CHECK.same("stuck: the other is pulled", box.told(1, 0), 5.953125);
        CHECK.same("stuck: steps", box.count(3), 1);
    }

    private static void rodKeepsItsLength() {
        ParticleBox box = Twins.turning();
        box.step(1, 128);
        CHECK.same("rod: rounds", box.count(5), 10);
        CHECK.same("rod: x of 0", box.told(0, 0), 5.0 - 1.0 / 1024.0);
        CHECK.same("rod: x of 1", box.told(1, 0), 5.0 + 1.0 / 1024.0);
        CHECK.same("rod: y of 0", box.told(0, 1), 3.0);
        CHECK.same("rod: y of 1", box.told(1, 1), 5.0);
        CHECK.same("rod: u of 0", box.told(0, 2), 8.0 * (1.0 - 1.0 / 1024.0));
        CHECK.same("rod: u of 1", box.told(1, 2), -8.0 * (1.0 - 1.0 / 1024.0));
        CHECK.same("rod: v of 0", box.told(0, 3), -8.0);
        CHECK.same("rod: v of 1", box.told(1, 3), 8.0);
        CHECK.same("rod: steps", box.count(3), 1);
    }

    /** A slanted ROD over the joined edges goes as one that lies amid the box, 27.0 away. */
    private static void rodAcrossTheEdges() {
        double[][] moves = {{27.0, 0.0}, {0.0, 27.0}, {27.0, 27.0}};
        for (double[] move : moves) {
            ParticleBox twin = slanted(0.0, 0.0);
            ParticleBox box = slanted(move[0], move[1]);
            twin.step(1, 128);
            box.step(1, 128);
            String what = "rod over the edges, " + move[0] + " " + move[1];
            CHECK.same(what + ": rounds", box.count(5), twin.count(5));
            CHECK.holds(what + ": some rounds", twin.count(5) > 1);
            for (int i = 0; i < 2; i++) {
                for (int axis = 0; axis < 2; axis++) {
                    double away = box.told(i, axis) - twin.told(i, axis);
                    double off = Math.IEEEremainder(away - move[axis], 32.0);
                    CHECK.holds(what + ": place", Math.abs(off) < 1e-9);
                    double faster = box.told(i, 2 + axis) - twin.told(i, 2 + axis);
                    CHECK.holds(what + ": speed", Math.abs(faster) < 1e-9);
                }
            }
        }
    }

    /** From (4, 4) to (6, 5.5), and farther on by the move. */
    private static ParticleBox slanted(double a, double b) {
        ParticleBox box = new ParticleBox(64);
        box.cut(0.5, 0.5);
        box.atom(4.0 + a, 4.0 + b, 1.0, 0);
        box.atom(6.0 + a, 5.5 + b, 2.0, 0);
        box.speed(0, -1.0, -4.0);
        box.speed(1, 2.0, 3.0);
        box.rod(0, 1, 2.5);
        return box;
    }

    /** One atom of mass 2 and a stuck one, along a slant: the ROD pulls by both parts of its way. */
    private static void rodAlongASlant() {
        ParticleBox box = apart();
        box.place(1, 7.0, 8.0);
        box.stuck(0, true);
        box.rod(0, 1, 4.5);
        box.step(1, 128);
        double a = 3.0;
        double b = 4.0;
        double x = 7.0;
        double y = 8.0;
        int rounds = 0;
        double over = a * a + b * b - 4.5 * 4.5;
        while (over > 0.000001 * 4.5 * 4.5) {
            double g = over / (2.0 * (a * 3.0 + b * 4.0) * 0.5);
            x = x - g * 0.5 * 3.0;
            y = y - g * 0.5 * 4.0;
            a = x - 4.0;
            b = y - 4.0;
            over = a * a + b * b - 4.5 * 4.5;
            rounds++;
        }
        CHECK.same("slant: rounds", box.count(5), rounds);
        CHECK.same("slant: x", box.told(1, 0), x);
        CHECK.same("slant: y", box.told(1, 1), y);
        CHECK.same("slant: u", box.told(1, 2), (x - 7.0) / 0.125);
        CHECK.same("slant: v", box.told(1, 3), (y - 8.0) / 0.125);
        CHECK.same("slant: the stuck one", box.told(0, 1), 4.0);
        ParticleBox turned = apart();
        turned.place(1, 7.0, 8.0);
        turned.stuck(0, true);
        turned.rod(1, 0, 4.5);
        turned.step(1, 128);
        CHECK.same("slant, turned: x", turned.told(1, 0), x);
        CHECK.same("slant, turned: y", turned.told(1, 1), y);
    }

    private static void rodOnStuckAtom() {
        ParticleBox box = apart();
        box.stuck(0, true);
        box.speed(1, 0.0, 8.0);
        box.rod(0, 1, 2.0);
        box.step(1, 128);
        double x = 6.0;
        int rounds = 0;
        for (double over = 1.0; over > 0.000004; over = (x - 4.0) * (x - 4.0) + 1.0 - 4.0) {
            x = x - over / (2.0 * ((x - 4.0) * 2.0) * 0.5) * 0.5 * 2.0;
            rounds++;
        }
        CHECK.same("rod, one stuck: rounds", box.count(5), rounds);
        CHECK.same("rod, one stuck: x of it", box.told(0, 0), 4.0);
        CHECK.same("rod, one stuck: u of it", box.told(0, 2), 0.0);
        CHECK.same("rod, one stuck: x", box.told(1, 0), x);
        CHECK.same("rod, one stuck: y", box.told(1, 1), 5.0);
        CHECK.same("rod, one stuck: u", box.told(1, 2), (x - 6.0) / 0.125);
        CHECK.same("rod, one stuck: v", box.told(1, 3), 8.0);
    }

    /** With a ROD anywhere all speeds come from the ways, and those are rounded. */
    private static void rodTellsSpeeds() {
        ParticleBox box = apart();
        box.atom(20.0, 20.0, 1.0, 0);
        box.speed(2, 0.1, 31.7);
        box.stuck(1, true);
        box.speed(1, 3.0, 0.0);
        box.rod(0, 1, 2.0);
        box.step(1, 7);
        double dt = 7.0 / 1024.0;
        CHECK.same("rod: u of a third", box.told(2, 2), (20.0 + dt * 0.1 - 20.0) / dt);
        CHECK.same("rod: v of a third", box.told(2, 3), (20.0 + dt * 31.7 - 20.0) / dt);
        CHECK.same("rod: u of a stuck one", box.told(1, 2), 3.0);
    }

    /** All rows full: ten atoms, eight BONDS, four RODS. */
    private static void fullBox() {
        ParticleBox box = new ParticleBox(64);
        for (int i = 0; i < 10; i++) {
            box.atom(3.0 * i, 2.0, 1.0, i % 3);
            box.speed(i, 0.0, 1.0);
        }
        for (int k = 0; k < 8; k++) {
            box.bond(k, k + 2, 0.0, 6.0);
        }
        for (int k = 0; k < 4; k++) {
            box.rod(k, k + 1, 3.0);
        }
        box.cut(2.0, 1.0);
        box.thermostat(1.0);
        box.step(50, 8);
        CHECK.same("full: steps", box.count(3), 50);
        CHECK.same("full: energy of pairs", box.energy(0), 0.0);
        CHECK.same("full: energy of bonds", box.energy(1), 0.0);
        CHECK.same("full: force", box.force(9, 1), 0.0);
        CHECK.holds("full: energy of motion", box.energy(2) > 9.99 && box.energy(2) < 10.01);
        CHECK.same("full: pairs", box.sample(), 0);
        for (int i = 0; i < 10; i++) {
            CHECK.same("full: x of " + i, box.told(i, 0), 3.0 * i);
            CHECK.holds("full: v of " + i, box.told(i, 3) > 1.41 && box.told(i, 3) < 1.42);
        }
    }

    /** The THERMOSTAT takes the TEMPERATURE after the last push, and takes the speeds alone. */
    private static void thermostatComesLast() {
        ParticleBox box = apart();
        box.bond(0, 1, 2.0, 1.0);
        ParticleBox twin = apart();
        twin.bond(0, 1, 2.0, 1.0);
        box.thermostat(3.0);
        box.step(1, 64);
        twin.step(1, 64);
        twin.scale(3.0);
        sameState("thermostat", box, twin);
        box.step(4, 64);
        for (int k = 0; k < 4; k++) {
            twin.step(1, 64);
            twin.scale(3.0);
        }
        sameState("thermostat in each step", box, twin);
    }

    private static void sameState(String what, ParticleBox one, ParticleBox two) {
        for (int i = 0; i < one.count(0); i++) {
            for (int k = 0; k < 4; k++) {
                CHECK.same(what + ": told " + i + " " + k, one.told(i, k), two.told(i, k));
            }
        }
    }

    /** Two atoms 2.0 apart, masses 1 and 2, that make no PAIR. */
    private static ParticleBox apart() {
        ParticleBox box = new ParticleBox(64);
        box.cut(0.5, 0.5);
        box.atom(4.0, 4.0, 1.0, 0);
        box.atom(6.0, 4.0, 2.0, 0);
        return box;
    }

    private static ParticleBox crowd() {
        ParticleBox box = new ParticleBox(24);
        for (int i = 0; i < 6; i++) {
            box.atom(2.0 + 1.5 * (i % 3), 3.0 + 1.4 * (i / 3), 1.0 + i, i % 3);
            box.speed(i, 0.5 - 0.25 * i, 0.3 * i);
        }
        box.sort(1, 0.9, 1.5, 0.5);
        box.sort(2, 1.1, 0.7, -0.5);
        box.bond(0, 5, 0.5, 3.0);
        box.rod(0, 1, 1.5);
        box.thermostat(2.0);
        return box;
    }
}
