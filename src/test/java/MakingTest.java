/** Promises 1 to 10: what is put into a box, and what is refused. */
public final class MakingTest {
    private static final Check CHECK = new Check("MakingTest");
    private static final double[] NEVER = {Double.NaN, Double.POSITIVE_INFINITY,
        Double.NEGATIVE_INFINITY};

    public static void main(String[] args) {
        newObjectIsEmpty();
        newObjectHasItsSide();
        newObjectHasItsCut();
        newObjectHasItsSkin();
        newObjectHasNoThermostat();
        atomsAreNumbered();
        atomsAreWrapped();
        atomRefuses();
        atomsHaveRoomForTen();
        placePuts();
        placeRefuses();
        speedIsSet();
        speedRefuses();
        sortIsSet();
        sortRefuses();
        cutIsSet();
        cutRefuses();
        bondsAreCounted();
        bondRefuses();
        rodsAreCounted();
        rodRefuses();
        stuckHolds();
        thermostatHeats();
        thermostatRefuses();
        listIsForgotten();
        CHECK.end();
    }

    private static void newObjectIsEmpty() {
        ParticleBox box = new ParticleBox(24);
        for (int what = 0; what <= 9; what++) {
            CHECK.same("new: count " + what, box.count(what), 0);
        }
        CHECK.same("new: temperature", box.temperature(), 0.0);
        CHECK.same("new: energy 0", box.energy(0), 0.0);
        CHECK.same("new: energy 1", box.energy(1), 0.0);
        CHECK.same("new: energy 2", box.energy(2), 0.0);
        CHECK.same("new: sample", box.sample(), 0);
        CHECK.refused("new: step", () -> box.step(1, 1));
        CHECK.bad("new: told", () -> box.told(0, 0));
    }

    private static void newObjectHasItsSide() {
        int[] given = {24, 25, 8, 9, 7, 0, -3, Integer.MIN_VALUE, 64, 63, 65, Integer.MAX_VALUE};
        double[] side = {12.0, 12.5, 4.0, 4.5, 4.0, 4.0, 4.0, 4.0, 32.0, 31.5, 32.0, 32.0};
        for (int k = 0; k < given.length; k++) {
            ParticleBox box = new ParticleBox(given[k]);
            box.atom(side[k], side[k] + 0.25, 1.0, 0);
            box.atom(side[k] - 0.25, -0.25, 1.0, 0);
            CHECK.same("side " + given[k] + ": x of SIDE", box.told(0, 0), 0.0);
            CHECK.same("side " + given[k] + ": y beyond SIDE", box.told(0, 1), 0.25);
            CHECK.same("side " + given[k] + ": x below SIDE", box.told(1, 0), side[k] - 0.25);
            CHECK.same("side " + given[k] + ": y below 0", box.told(1, 1), side[k] - 0.25);
        }
    }

    private static void newObjectHasItsCut() {
        for (int side = 8; side <= 64; side += 7) {
            double cut = side * 0.5 * 0.25;
            ParticleBox box = new ParticleBox(side);
            box.atom(0.0, 0.0, 1.0, 0);
            box.atom(cut, 0.0, 1.0, 0);
            CHECK.same("side " + side + ": at CUT no pair", box.sample(), 0);
            box.place(1, cut - 0.0078125, 0.0);
            CHECK.same("side " + side + ": below CUT a pair", box.sample(), 1);
        }
    }

    private static void newObjectHasItsSkin() {
        ParticleBox box = new ParticleBox(32);
        box.atom(1.0, 1.0, 1.0, 0);
        box.speed(0, 8.0, 0.0);
        box.step(1, 32);
        CHECK.same("new: half the SKIN is not above it", box.count(4), 1);
        box.speed(0, 0.125, 0.0);
        box.step(1, 1);
        CHECK.same("new: above half the SKIN", box.count(4), 2);
    }

    private static void newObjectHasNoThermostat() {
        ParticleBox box = new ParticleBox(32);
        box.atom(1.0, 1.0, 1.0, 0);
        box.speed(0, 8.0, 2.0);
        box.step(3, 8);
        CHECK.same("new: no thermostat u", box.told(0, 2), 8.0);
        CHECK.same("new: no thermostat v", box.told(0, 3), 2.0);
    }

    private static void atomsAreNumbered() {
        ParticleBox box = new ParticleBox(24);
        CHECK.same("atom: first", box.atom(1.0, 2.0, 0.125, 0), 0);
        CHECK.same("atom: second", box.atom(3.0, 4.5, 64.0, 2), 1);
        CHECK.same("atom: third", box.atom(1000.0, -1000.0, 2.0, 1), 2);
        CHECK.same("atom: how many", box.count(0), 3);
        double[][] due = {{1.0, 2.0, 0.0, 0.0, 0.125}, {3.0, 4.5, 0.0, 0.0, 64.0},
            {4.0, 8.0, 0.0, 0.0, 2.0}};
        for (int i = 0; i < due.length; i++) {
            for (int what = 0; what < 5; what++) {
                CHECK.same("atom " + i + ": told " + what, box.told(i, what), due[i][what]);
            }
        }
        box.speed(0, 1.0, 0.0);
        box.step(1, 128);
        CHECK.same("atom: is not stuck", box.told(0, 0), 1.125);
    }

    private static void atomsAreWrapped() {
        double[] given = {0.0, -0.0, 11.999, 12.0, 12.25, 23.5, -0.5, -12.0, -12.5, 996.0, -1e-30,
            Math.nextDown(12.0), -1000.0, 0.1, 24.1, -35.9};
        for (double z : given) {
            ParticleBox box = new ParticleBox(24);
            box.atom(z, 0.0, 1.0, 0);
            box.atom(0.0, z, 1.0, 0);
            double due = z - 12.0 * Math.floor(z / 12.0);
            due = due < 12.0 ? due : 0.0;
            CHECK.same("atom: x wrapped " + z, box.told(0, 0), due);
            CHECK.same("atom: y wrapped " + z, box.told(1, 1), due);
        }
        ParticleBox box = new ParticleBox(24);
        box.atom(-1e-30, -1e-30, 1.0, 0);
        CHECK.same("atom: a hair below 0 is 0", box.told(0, 0), 0.0);
        CHECK.same("atom: a hair below 0 is 0", box.told(0, 1), 0.0);
    }

    private static void atomRefuses() {
        ParticleBox box = new ParticleBox(24);
        double above = Math.nextUp(1000.0);
        CHECK.bad("atom: x above", () -> box.atom(above, 0.0, 1.0, 0));
        CHECK.bad("atom: x below", () -> box.atom(-above, 0.0, 1.0, 0));
        CHECK.bad("atom: y above", () -> box.atom(0.0, above, 1.0, 0));
        CHECK.bad("atom: y below", () -> box.atom(0.0, -above, 1.0, 0));
        CHECK.bad("atom: mass below", () -> box.atom(0.0, 0.0, Math.nextDown(0.125), 0));
        CHECK.bad("atom: mass above", () -> box.atom(0.0, 0.0, Math.nextUp(64.0), 0));
        CHECK.bad("atom: sort below", () -> box.atom(0.0, 0.0, 1.0, -1));
        CHECK.bad("atom: sort above", () -> box.atom(0.0, 0.0, 1.0, 3));
        for (double z : NEVER) {
            CHECK.bad("atom: x " + z, () -> box.atom(z, 0.0, 1.0, 0));
            CHECK.bad("atom: y " + z, () -> box.atom(0.0, z, 1.0, 0));
            CHECK.bad("atom: mass " + z, () -> box.atom(0.0, 0.0, z, 0));
        }
        CHECK.same("atom: none was made", box.count(0), 0);
    }

    private static void atomsHaveRoomForTen() {
        ParticleBox box = new ParticleBox(64);
        for (int i = 0; i < 10; i++) {
            CHECK.same("atom: number", box.atom(i * 3.0, 0.0, 1.0, i % 3), i);
        }
        CHECK.refused("atom: the eleventh", () -> box.atom(1.0, 5.0, 1.0, 0));
        CHECK.bad("atom: bad comes first", () -> box.atom(1.0, 5.0, 1.0, 3));
        CHECK.same("atom: ten", box.count(0), 10);
        box.step(1, 1);
        CHECK.refused("atom: the eleventh again", () -> box.atom(1.0, 5.0, 1.0, 0));
        box.step(1, 1);
        CHECK.same("atom: a refused one leaves the list", box.count(4), 1);
    }

    private static void placePuts() {
        ParticleBox box = twoAtoms();
        box.speed(1, 3.0, -4.0);
        box.stuck(0, true);
        box.place(1, -1000.0, 1000.0);
        box.place(0, 12.0, -0.25);
        CHECK.same("place: x", box.told(1, 0), 8.0);
        CHECK.same("place: y", box.told(1, 1), 4.0);
        CHECK.same("place: keeps u", box.told(1, 2), 3.0);
        CHECK.same("place: keeps v", box.told(1, 3), -4.0);
        CHECK.same("place: keeps mass", box.told(1, 4), 2.0);
        CHECK.same("place: a stuck one x", box.told(0, 0), 0.0);
        CHECK.same("place: a stuck one y", box.told(0, 1), 11.75);
        CHECK.same("place: no more atoms", box.count(0), 2);
    }

    private static void placeRefuses() {
        ParticleBox box = twoAtoms();
        double above = Math.nextUp(1000.0);
        CHECK.bad("place: no atom 2", () -> box.place(2, 1.0, 1.0));
        CHECK.bad("place: no atom -1", () -> box.place(-1, 1.0, 1.0));
        CHECK.bad("place: x above", () -> box.place(0, above, 1.0));
        CHECK.bad("place: x below", () -> box.place(0, -above, 1.0));
        CHECK.bad("place: y above", () -> box.place(0, 1.0, above));
        CHECK.bad("place: y below", () -> box.place(0, 1.0, -above));
        for (double z : NEVER) {
            CHECK.bad("place: x " + z, () -> box.place(0, z, 1.0));
            CHECK.bad("place: y " + z, () -> box.place(0, 1.0, z));
        }
        CHECK.same("place: x stays", box.told(0, 0), 3.0);
        CHECK.same("place: y stays", box.told(0, 1), 3.0);
    }

    private static void speedIsSet() {
        ParticleBox box = twoAtoms();
        box.speed(1, 1000.0, -1000.0);
        CHECK.same("speed: u", box.told(1, 2), 1000.0);
        CHECK.same("speed: v", box.told(1, 3), -1000.0);
        CHECK.same("speed: other u", box.told(0, 2), 0.0);
        box.speed(1, -1000.0, 1000.0);
        CHECK.same("speed: u again", box.told(1, 2), -1000.0);
        CHECK.same("speed: v again", box.told(1, 3), 1000.0);
        CHECK.same("speed: x stays", box.told(1, 0), 8.0);
        box.stuck(0, true);
        box.speed(0, 5.0, 6.0);
        CHECK.same("speed: of a stuck one u", box.told(0, 2), 5.0);
        CHECK.same("speed: of a stuck one v", box.told(0, 3), 6.0);
    }

    private static void speedRefuses() {
        ParticleBox box = twoAtoms();
        box.speed(0, 1.0, 2.0);
        double above = Math.nextUp(1000.0);
        CHECK.bad("speed: no atom 2", () -> box.speed(2, 0.0, 0.0));
        CHECK.bad("speed: no atom -1", () -> box.speed(-1, 0.0, 0.0));
        CHECK.bad("speed: u above", () -> box.speed(0, above, 0.0));
        CHECK.bad("speed: u below", () -> box.speed(0, -above, 0.0));
        CHECK.bad("speed: v above", () -> box.speed(0, 0.0, above));
        CHECK.bad("speed: v below", () -> box.speed(0, 0.0, -above));
        for (double z : NEVER) {
            CHECK.bad("speed: u " + z, () -> box.speed(0, z, 0.0));
            CHECK.bad("speed: v " + z, () -> box.speed(0, 0.0, z));
        }
        CHECK.same("speed: u stays", box.told(0, 2), 1.0);
        CHECK.same("speed: v stays", box.told(0, 3), 2.0);
    }

    /** With r2 = 4, width 2 and width 1: s = 1.5, and the energy follows by hand. */
    private static void sortIsSet() {
        ParticleBox box = new ParticleBox(64);
        box.atom(1.0, 1.0, 1.0, 0);
        box.atom(3.0, 1.0, 1.0, 1);
        double q = 1.0 / 4.0;
        double p = q * q * q;
        CHECK.same("sort: at first", box.energy(0), 4.0 * (p * p - p));
        box.sort(1, 2.0, 5.0, -3.0);
        double q2 = 2.25 / 4.0;
        double p2 = q2 * q2 * q2;
        CHECK.same("sort: width and depth", box.energy(0), 4.0 * 3.0 * (p2 * p2 - p2));
        box.sort(0, 2.0, 1.0, 2.0);
        CHECK.same("sort: charges too", box.energy(0), 0.0 + -6.0 * (0.25 - 1.0 / 64.0));
        box.sort(2, 4.0, 64.0, 8.0);
        CHECK.same("sort: another's does nothing", box.energy(0), -6.0 * (0.25 - 1.0 / 64.0));
        box.sort(0, 0.125, 0.0, -8.0);
        box.sort(1, 0.125, 0.0, 8.0);
        CHECK.same("sort: the least", box.energy(0), -64.0 * (0.25 - 1.0 / 64.0));
        box.sort(1, 4.0, 64.0, 0.0);
        box.sort(0, 4.0, 64.0, 0.0);
        CHECK.same("sort: the most", box.energy(0), 4.0 * 64.0 * (4096.0 - 64.0));
    }

    private static void sortRefuses() {
        ParticleBox box = twoAtoms();
        box.place(1, 4.5, 3.0);
        double before = box.energy(0);
        CHECK.holds("sort: there is an energy", before < 0.0);
        CHECK.bad("sort: -1", () -> box.sort(-1, 2.0, 2.0, 2.0));
        CHECK.bad("sort: 3", () -> box.sort(3, 2.0, 2.0, 2.0));
        CHECK.bad("sort: width below", () -> box.sort(0, Math.nextDown(0.125), 2.0, 2.0));
        CHECK.bad("sort: width above", () -> box.sort(0, Math.nextUp(4.0), 2.0, 2.0));
        CHECK.bad("sort: depth below", () -> box.sort(0, 2.0, -Double.MIN_VALUE, 2.0));
        CHECK.bad("sort: depth above", () -> box.sort(0, 2.0, Math.nextUp(64.0), 2.0));
        CHECK.bad("sort: charge below", () -> box.sort(0, 2.0, 2.0, Math.nextDown(-8.0)));
        CHECK.bad("sort: charge above", () -> box.sort(0, 2.0, 2.0, Math.nextUp(8.0)));
        for (double z : NEVER) {
            CHECK.bad("sort: width " + z, () -> box.sort(0, z, 2.0, 2.0));
            CHECK.bad("sort: depth " + z, () -> box.sort(0, 2.0, z, 2.0));
            CHECK.bad("sort: charge " + z, () -> box.sort(0, 2.0, 2.0, z));
        }
        CHECK.same("sort: nothing changed", box.energy(0), before);
    }

    private static void cutIsSet() {
        ParticleBox box = twoAtoms();
        box.place(1, 3.0, 8.5);
        CHECK.same("cut: not yet a pair", box.sample(), 0);
        box.cut(6.0, 4.0);
        CHECK.same("cut: a pair now", box.sample(), 1);
        box.cut(0.5, 0.0);
        CHECK.same("cut: none again", box.sample(), 0);
        box.place(1, 3.25, 3.25);
        CHECK.same("cut: within 0.5", box.sample(), 1);
    }

    private static void cutRefuses() {
        ParticleBox box = twoAtoms();
        box.place(1, 5.5, 3.0);
        CHECK.bad("cut: below", () -> box.cut(Math.nextDown(0.5), 1.0));
        CHECK.bad("cut: above", () -> box.cut(Math.nextUp(6.0), 1.0));
        CHECK.bad("cut: skin below", () -> box.cut(1.0, -Double.MIN_VALUE));
        CHECK.bad("cut: skin above", () -> box.cut(1.0, Math.nextUp(4.0)));
        for (double z : NEVER) {
            CHECK.bad("cut: " + z, () -> box.cut(z, 1.0));
            CHECK.bad("cut: skin " + z, () -> box.cut(1.0, z));
        }
        CHECK.same("cut: stays", box.sample(), 1);
    }

    private static void bondsAreCounted() {
        ParticleBox box = twoAtoms();
        CHECK.same("bond: first", box.bond(0, 1, 0.0, 0.125), 1);
        CHECK.same("bond: the same again", box.bond(0, 1, 64.0, 6.0), 2);
        CHECK.same("bond: the other way", box.bond(1, 0, 1.0, 1.0), 3);
        for (int k = 4; k <= 8; k++) {
            CHECK.same("bond: " + k, box.bond(0, 1, 1.0, 1.0), k);
        }
        double before = box.energy(1);
        CHECK.refused("bond: the ninth", () -> box.bond(0, 1, 1.0, 1.0));
        CHECK.bad("bond: bad comes first", () -> box.bond(0, 0, 1.0, 1.0));
        CHECK.same("bond: eight", box.count(1), 8);
        CHECK.same("bond: no rods", box.count(2), 0);
        CHECK.same("bond: the ninth does nothing", box.energy(1), before);
    }

    private static void bondRefuses() {
        ParticleBox box = twoAtoms();
        CHECK.bad("bond: the same atom", () -> box.bond(1, 1, 1.0, 1.0));
        CHECK.bad("bond: no atom 2", () -> box.bond(0, 2, 1.0, 1.0));
        CHECK.bad("bond: no atom 2 first", () -> box.bond(2, 0, 1.0, 1.0));
        CHECK.bad("bond: no atom -1", () -> box.bond(-1, 0, 1.0, 1.0));
        CHECK.bad("bond: no atom -1 second", () -> box.bond(0, -1, 1.0, 1.0));
        CHECK.bad("bond: strength below", () -> box.bond(0, 1, -Double.MIN_VALUE, 1.0));
        CHECK.bad("bond: strength above", () -> box.bond(0, 1, Math.nextUp(64.0), 1.0));
        CHECK.bad("bond: length below", () -> box.bond(0, 1, 1.0, Math.nextDown(0.125)));
        CHECK.bad("bond: length above", () -> box.bond(0, 1, 1.0, Math.nextUp(6.0)));
        for (double z : NEVER) {
            CHECK.bad("bond: strength " + z, () -> box.bond(0, 1, z, 1.0));
            CHECK.bad("bond: length " + z, () -> box.bond(0, 1, 1.0, z));
        }
        CHECK.same("bond: none", box.count(1), 0);
    }

    private static void rodsAreCounted() {
        ParticleBox box = twoAtoms();
        CHECK.same("rod: first", box.rod(0, 1, 0.125), 1);
        CHECK.same("rod: the same again", box.rod(0, 1, 6.0), 2);
        CHECK.same("rod: the other way", box.rod(1, 0, 5.0), 3);
        CHECK.same("rod: fourth", box.rod(0, 1, 5.0), 4);
        CHECK.refused("rod: the fifth", () -> box.rod(0, 1, 5.0));
        CHECK.bad("rod: bad comes first", () -> box.rod(0, 2, 5.0));
        CHECK.same("rod: four", box.count(2), 4);
        CHECK.same("rod: no bonds", box.count(1), 0);
    }

    private static void rodRefuses() {
        ParticleBox box = twoAtoms();
        CHECK.bad("rod: the same atom", () -> box.rod(0, 0, 1.0));
        CHECK.bad("rod: no atom 2", () -> box.rod(0, 2, 1.0));
        CHECK.bad("rod: no atom 2 first", () -> box.rod(2, 0, 1.0));
        CHECK.bad("rod: no atom -1", () -> box.rod(-1, 0, 1.0));
        CHECK.bad("rod: no atom -1 second", () -> box.rod(0, -1, 1.0));
        CHECK.bad("rod: length below", () -> box.rod(0, 1, Math.nextDown(0.125)));
        CHECK.bad("rod: length above", () -> box.rod(0, 1, Math.nextUp(6.0)));
        for (double z : NEVER) {
            CHECK.bad("rod: length " + z, () -> box.rod(0, 1, z));
        }
        CHECK.same("rod: none", box.count(2), 0);
    }

    private static void stuckHolds() {
        ParticleBox box = twoAtoms();
        box.speed(0, 3.0, 4.0);
        box.speed(1, 1.0, 2.0);
        box.stuck(0, true);
        CHECK.same("stuck: u becomes 0", box.told(0, 2), 0.0);
        CHECK.same("stuck: v becomes 0", box.told(0, 3), 0.0);
        CHECK.same("stuck: the other's stays", box.told(1, 2), 1.0);
        box.speed(0, 3.0, 4.0);
        box.step(1, 128);
        CHECK.same("stuck: x stays", box.told(0, 0), 3.0);
        CHECK.same("stuck: y stays", box.told(0, 1), 3.0);
        CHECK.same("stuck: the other goes on", box.told(1, 0), 8.125);
        box.stuck(0, false);
        CHECK.same("stuck: off keeps u", box.told(0, 2), 3.0);
        CHECK.same("stuck: off keeps v", box.told(0, 3), 4.0);
        box.step(1, 128);
        CHECK.same("stuck: off goes x", box.told(0, 0), 3.375);
        CHECK.same("stuck: off goes y", box.told(0, 1), 3.5);
        CHECK.bad("stuck: no atom 2", () -> box.stuck(2, true));
        CHECK.bad("stuck: no atom -1", () -> box.stuck(-1, false));
    }

    /** TEMPERATURE is 16 with mass 2 and speed 4; each ROOT here is exact. */
    private static void thermostatHeats() {
        ParticleBox box = new ParticleBox(64);
        box.atom(4.0, 4.0, 2.0, 0);
        box.speed(0, 4.0, 0.0);
        box.thermostat(4.0);
        CHECK.same("thermostat: not before a step", box.told(0, 2), 4.0);
        box.step(1, 8);
        CHECK.same("thermostat: at the step's end", box.told(0, 2), 2.0);
        CHECK.same("thermostat: after the way", box.told(0, 0), 4.03125);
        box.step(1, 8);
        CHECK.same("thermostat: stays there", box.told(0, 2), 2.0);
        box.thermostat(-0.5);
        box.speed(0, 4.0, 0.0);
        box.step(1, 8);
        CHECK.same("thermostat: off", box.told(0, 2), 4.0);
        box.thermostat(0.0);
        box.step(1, 8);
        CHECK.same("thermostat: 0.0 is on", box.told(0, 2), 0.0);
        box.thermostat(1000.0);
        box.step(1, 8);
        CHECK.same("thermostat: nothing for one at rest", box.told(0, 2), 0.0);
        box.speed(0, 4.0, 0.0);
        box.thermostat(Double.NEGATIVE_INFINITY);
        box.step(1, 8);
        CHECK.same("thermostat: far below is off", box.told(0, 2), 4.0);
    }

    private static void thermostatRefuses() {
        ParticleBox box = new ParticleBox(64);
        box.atom(4.0, 4.0, 2.0, 0);
        box.speed(0, 4.0, 0.0);
        box.thermostat(4.0);
        CHECK.bad("thermostat: above", () -> box.thermostat(Math.nextUp(1000.0)));
        CHECK.bad("thermostat: far above", () -> box.thermostat(Double.POSITIVE_INFINITY));
        CHECK.bad("thermostat: NaN", () -> box.thermostat(Double.NaN));
        box.step(1, 8);
        CHECK.same("thermostat: as it was", box.told(0, 2), 2.0);
    }

    private static void listIsForgotten() {
        ParticleBox box = twoAtoms();
        box.step(1, 1);
        box.step(1, 1);
        CHECK.same("list: made once", box.count(4), 1);
        box.speed(0, 0.25, 0.0);
        box.sort(0, 1.5, 1.0, 0.0);
        box.bond(0, 1, 0.0, 5.0);
        box.stuck(1, true);
        box.thermostat(2.0);
        box.scale(1.0);
        box.sample();
        CHECK.bad("list: bad atom", () -> box.atom(0.0, 0.0, 0.0, 0));
        CHECK.bad("list: bad place", () -> box.place(0, 2000.0, 0.0));
        CHECK.bad("list: bad cut", () -> box.cut(100.0, 1.0));
        CHECK.bad("list: bad step", () -> box.step(0, 1));
        box.step(1, 1);
        CHECK.same("list: still the same", box.count(4), 1);
        box.place(0, box.told(0, 0), box.told(0, 1));
        CHECK.same("list: not made by place", box.count(4), 1);
        box.step(1, 1);
        CHECK.same("list: made after place", box.count(4), 2);
        box.atom(0.0, 0.0, 1.0, 0);
        box.step(1, 1);
        CHECK.same("list: made after atom", box.count(4), 3);
        box.cut(2.0, 0.5);
        box.step(2, 1);
        CHECK.same("list: made after cut", box.count(4), 4);
    }

    private static ParticleBox twoAtoms() {
        ParticleBox box = new ParticleBox(24);
        box.atom(3.0, 3.0, 1.0, 0);
        box.atom(8.0, 3.0, 2.0, 1);
        return box;
    }
}
