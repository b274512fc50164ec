/** Promises 1 to 10: what is put into a box. (RangesTest holds what is refused.) */
public final class MakingTest {
    private static final Check CHECK = new Check("MakingTest");

    public static void main(String[] args) {
        newObjectHasNoThermostat();
        atomsAreNumbered();
        placePuts();
        speedIsSet();
        sortIsSet();
        cutIsSet();
        stuckHolds();
        thermostatHeats();
        CHECK.end();
    }

    private static void newObjectHasNoThermostat() {
        ParticleBox box = new ParticleBox(32);
        box.atom(1.0, 1.0, 1.0, 0);
        box.speed(0, 8.0, 2.0);
        box.step(3, 8);
        CHECK.same("new: no thermostat u", box.told(0, 2), 8.0);
        CHECK.same("new: no thermostat v", box.told(0, 3), 2.0);
    }

    private static void atomsAreNumbered() {
        ParticleBox box = new ParticleBox(24);
        CHECK.same("atom: first", box.atom(1.0, 2.0, 0.125, 0), 0);
        CHECK.same("atom: second", box.atom(3.0, 4.5, 64.0, 2), 1);
        CHECK.same("atom: third", box.atom(1000.0, -1000.0, 2.0, 1), 2);
        CHECK.same("atom: how many", box.count(0), 3);
        double[][] due = {{1.0, 2.0, 0.0, 0.0, 0.125}, {3.0, 4.5, 0.0, 0.0, 64.0},
            {4.0, 8.0, 0.0, 0.0, 2.0}};
        for (int i = 0; i < due.length; i++) {
            for (int what = 0; what < 5; what++) {
                CHECK.same("atom " + i + ": told " + what, box.told(i, what), due[i][what]);
            }
        }
        box.speed(0, 1.0, 0.0);
        box.step(1, 128);
        CHECK.same("atom: is not stuck", box.told(0, 0), 1.125);
    }

    private static void placePuts() {
        ParticleBox box = twoAtoms();
        box.speed(1, 3.0, -4.0);
        box.stuck(0, true);
        box.place(1, -1000.0, 1000.0);
        box.place(0, 12.0, -0.25);
        CHECK.same("place: x", box.told(1, 0), 8.0);
        CHECK.same("place: y", box.told(1, 1), 4.0);
        CHECK.same("place: keeps u", box.told(1, 2), 3.0);
        CHECK.same("place: keeps v", box.told(1, 3), -4.0);
        CHECK.same("place: keeps mass", box.told(1, 4), 2.0);
        CHECK.same("place: a stuck one x", box.told(0, 0), 0.0);
        CHECK.same("place: a stuck one y", box.told(0, 1), 11.75);
        CHECK.same("place: no more atoms", box.count(0), 2);
    }

    private static void speedIsSet() {
        ParticleBox box = twoAtoms();
        box.speed(1, 1000.0, -1000.0);
        CHECK.same("speed: u", box.told(1, 2), 1000.0);
        CHECK.same("speed: v", box.told(1, 3), -1000.0);
        CHECK.same("speed: other u", box.told(0, 2), 0.0);
        box.speed(1, -1000.0, 1000.0);
        CHECK.same("speed: u again", box.told(1, 2), -1000.0);
        CHECK.same("speed: v again", box.told(1, 3), 1000.0);
        CHECK.same("speed: x stays", box.told(1, 0), 8.0);
        box.stuck(0, true);
        box.speed(0, 5.0, 6.0);
        CHECK.same("speed: of a stuck one u", box.told(0, 2), 5.0);
        CHECK.same("speed: of a stuck one v", box.told(0, 3), 6.0);
    }

    /** With r2 = 4, width 2 and width 1: s = 1.5, and the energy follows by hand. */
    private static void sortIsSet() {
        ParticleBox box = new ParticleBox(64);
        box.atom(1.0, 1.0, 1.0, 0);
        box.atom(3.0, 1.0, 1.0, 1);
        double q = 1.0 / 4.0;
        double p = q * q * q;
        CHECK.same("sort: at first", box.energy(0), 4.0 * (p * p - p));
        box.sort(1, 2.0, 5.0, -3.0);
        double q2 = 2.25 / 4.0;
        double p2 = q2 * q2 * q2;
        CHECK.same("sort: width and depth", box.energy(0), 4.0 * 3.0 * (p2 * p2 - p2));
        box.sort(0, 2.0, 1.0, 2.0);
        CHECK.same("sort: charges too", box.energy(0), 0.0 + -6.0 * (0.25 - 1.0 / 64.0));
        box.sort(2, 4.0, 64.0, 8.0);
        CHECK.same("sort: another's does nothing", box.energy(0), -6.0 * (0.25 - 1.0 / 64.0));
        box.sort(0, 0.125, 0.0, -8.0);
        box.sort(1, 0.125, 0.0, 8.0);
        CHECK.same("sort: the least", box.energy(0), -64.0 * (0.25 - 1.0 / 64.0));
        box.sort(1, 4.0, 64.0, 0.0);
        box.sort(0, 4.0, 64.0, 0.0);
        CHECK.same("sort: the most", box.energy(0), 4.0 * 64.0 * (4096.0 - 64.0));
    }

    private static void cutIsSet() {
        ParticleBox box = twoAtoms();
        box.place(1, 3.0, 8.5);
        CHECK.same("cut: not yet a pair", box.sample(), 0);
        box.cut(6.0, 4.0);
        CHECK.same("cut: a pair now", box.sample(), 1);
        box.cut(0.5, 0.0);
        CHECK.same("cut: none again", box.sample(), 0);
        box.place(1, 3.25, 3.25);
        CHECK.same("cut: within 0.5", box.sample(), 1);
    }

    private static void stuckHolds() {
        ParticleBox box = twoAtoms();
        box.speed(0, 3.0, 4.0);
        box.speed(1, 1.0, 2.0);
        box.stuck(0, true);
        CHECK.same("stuck: u becomes 0", box.told(0, 2), 0.0);
        CHECK.same("stuck: v becomes 0", box.told(0, 3), 0.0);
        CHECK.same("stuck: the other's stays", box.told(1, 2), 1.0);
        box.speed(0, 3.0, 4.0);
        box.step(1, 128);
        CHECK.same("stuck: x stays", box.told(0, 0), 3.0);
        CHECK.same("stuck: y stays", box.told(0, 1), 3.0);
        CHECK.same("stuck: the other goes on", box.told(1, 0), 8.125);
        box.stuck(0, false);
        CHECK.same("stuck: off keeps u", box.told(0, 2), 3.0);
        CHECK.same("stuck: off keeps v", box.told(0, 3), 4.0);
        box.step(1, 128);
        CHECK.same("stuck: off goes x", box.told(0, 0), 3.375);
        CHECK.same("stuck: off goes y", box.told(0, 1), 3.5);
        box.stuck(0, true);
        box.speed(0, 3.0, 4.0);
        box.stuck(0, true);
        CHECK.same("stuck: on again, u becomes 0", box.told(0, 2), 0.0);
        CHECK.same("stuck: on again, v becomes 0", box.told(0, 3), 0.0);
    }

    /** TEMPERATURE is 16 with mass 2 and speed 4; each ROOT here is exact. */
    private static void thermostatHeats() {
        ParticleBox box = new ParticleBox(64);
        box.atom(4.0, 4.0, 2.0, 0);
        box.speed(0, 4.0, 0.0);
        box.thermostat(4.0);
        CHECK.same("thermostat: not before a step", box.told(0, 2), 4.0);
        box.step(1, 8);
        CHECK.same("thermostat: at the step's end", box.told(0, 2), 2.0);
        CHECK.same("thermostat: after the way", box.told(0, 0), 4.03125);
        box.step(1, 8);
        CHECK.same("thermostat: stays there", box.told(0, 2), 2.0);
        box.thermostat(-0.5);
        box.speed(0, 4.0, 0.0);
        box.step(1, 8);
        CHECK.same("thermostat: off", box.told(0, 2), 4.0);
        box.thermostat(0.0);
        box.step(1, 8);
        CHECK.same("thermostat: 0.0 is on", box.told(0, 2), 0.0);
        box.thermostat(1000.0);
        box.step(1, 8);
        CHECK.same("thermostat: nothing for one at rest", box.told(0, 2), 0.0);
    }

    private static ParticleBox twoAtoms() {
        ParticleBox box = new ParticleBox(24);
        box.atom(3.0, 3.0, 1.0, 0);
        box.atom(8.0, 3.0, 2.0, 1);
        return box;
    }
}
