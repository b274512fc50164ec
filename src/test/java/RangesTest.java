import java.util.function.Consumer;
import java.util.function.Supplier;

/**
 * The ranges of every argument of promises 1 to 19: the edge itself, the nearest number on either
 * side of it, and far off. A call that is refused must leave everything as it was. And what is full
 * or empty: the last that has room, the first that has none, and that bad comes first.
 */
public final class RangesTest {
    private static final Check CHECK = new Check("RangesTest");
    private static final Class<?> BAD = IllegalArgumentException.class;
    private static final Class<?> NOT_NOW = IllegalStateException.class;

    private interface WithDouble {
        void on(ParticleBox box, double z);
    }

    private interface WithInt {
        void on(ParticleBox box, int z);
    }

    private interface WithTwo {
        void on(ParticleBox box, int i, int j);
    }

    public static void main(String[] args) {
        sideIsClamped();
        rangesOfAtom();
        rangesOfPlace();
        rangesOfSpeed();
        rangesOfSort();
        rangesOfCut();
        rangesOfBond();
        rangesOfRod();
        rangesOfStuck();
        rangesOfThermostat();
        rangesOfStep();
        rangesOfScale();
        rangesOfWhatIsAsked();
        countOfNothing();
        lengthsFollowTheSide();
        tenAtomsHaveRoom();
        eightBondsHaveRoom();
        fourRodsHaveRoom();
        badComesBeforeNoRoom();
        badComesBeforeOverlap();
        emptyBoxHasNoAtomToName();
        emptyBoxMakesNoStep();
        emptyBoxAnswers();
        CHECK.end();
    }

    /** "SIDE is side (clamped to 8 .. 64) * 0.5; CUT SIDE * 0.25, SKIN 0.5". */
    private static void sideIsClamped() {
        int[] given = {Integer.MIN_VALUE, -1, 0, 7, 8, 9, 63, 64, 65, Integer.MAX_VALUE};
        double[] side = {4.0, 4.0, 4.0, 4.0, 4.0, 4.5, 31.5, 32.0, 32.0, 32.0};
        for (int k = 0; k < given.length; k++) {
            String what = "side " + given[k];
            ParticleBox box = new ParticleBox(given[k]);
            box.atom(0.0, 0.0, 1.0, 0);
            box.atom(side[k], Math.nextDown(side[k]), 1.0, 0);
            CHECK.same(what + ": at SIDE", box.told(1, 0), 0.0);
            CHECK.same(what + ": below SIDE", box.told(1, 1), Math.nextDown(side[k]));
            box.place(1, Math.nextUp(side[k]), 0.0);
            CHECK.same(what + ": beyond SIDE", box.told(1, 0), Math.ulp(side[k]));
            double cut = side[k] * 0.25;
            pairsAt(what + ": below CUT", box, Math.nextDown(cut), 1);
            pairsAt(what + ": at CUT", box, cut, 0);
            pairsAt(what + ": above CUT", box, Math.nextUp(cut), 0);
            listsAfterWay(what + ": below half the SKIN", given[k], Math.nextDown(0.25), 1);
            listsAfterWay(what + ": half the SKIN", given[k], 0.25, 1);
            listsAfterWay(what + ": above half the SKIN", given[k], Math.nextUp(0.25), 2);
        }
    }

    private static void pairsAt(String what, ParticleBox box, double way, int due) {
        box.place(1, way, 0.0);
        CHECK.same(what, box.sample(), due);
    }

    private static void listsAfterWay(String what, int side, double way, int due) {
        ParticleBox box = new ParticleBox(side);
        box.atom(0.0, 0.0, 1.0, 0);
        box.speed(0, way * 8.0, 0.0);
        box.step(1, 128);
        CHECK.same(what, box.count(4), due);
    }

    private static void rangesOfAtom() {
        numbers("atom: x", -1000.0, 1000.0, (box, z) -> box.atom(z, 10.0, 3.0, 1));
        numbers("atom: y", -1000.0, 1000.0, (box, z) -> box.atom(10.0, z, 3.0, 1));
        numbers("atom: mass", 0.125, 64.0, (box, z) -> box.atom(10.0, 10.0, z, 1));
        wholes("atom: sort", 0, 2, (box, z) -> box.atom(10.0, 10.0, 3.0, z));
    }

    private static void rangesOfPlace() {
        wholes("place: i", 0, 3, (box, z) -> box.place(z, 9.0, 10.0));
        numbers("place: x", -1000.0, 1000.0, (box, z) -> box.place(1, z, 10.0));
        numbers("place: y", -1000.0, 1000.0, (box, z) -> box.place(1, 10.0, z));
    }

    private static void rangesOfSpeed() {
        wholes("speed: i", 0, 3, (box, z) -> box.speed(z, 7.0, 9.0));
        numbers("speed: u", -1000.0, 1000.0, (box, z) -> box.speed(1, z, 9.0));
        numbers("speed: v", -1000.0, 1000.0, (box, z) -> box.speed(1, 7.0, z));
    }

    private static void rangesOfSort() {
        wholes("sort: sort", 0, 2, (box, z) -> box.sort(z, 0.5, 3.0, 1.0));
        numbers("sort: width", 0.125, 4.0, (box, z) -> box.sort(1, z, 3.0, 1.0));
        numbers("sort: depth", 0.0, 64.0, (box, z) -> box.sort(1, 0.5, z, 1.0));
        numbers("sort: charge", -8.0, 8.0, (box, z) -> box.sort(1, 0.5, 3.0, z));
    }

    private static void rangesOfCut() {
        numbers("cut: cut", 0.5, 8.0, (box, z) -> box.cut(z, 4.0));
        numbers("cut: skin", 0.0, 4.0, (box, z) -> box.cut(1.5, z));
    }

    private static void rangesOfBond() {
        numbers("bond: strength", 0.0, 64.0, (box, z) -> box.bond(2, 0, z, 5.0));
        numbers("bond: length", 0.125, 8.0, (box, z) -> box.bond(2, 0, 7.0, z));
        rangeOfTwo("bond", (box, i, j) -> box.bond(i, j, 7.0, 5.0));
    }

    private static void rangesOfRod() {
        numbers("rod: length", 0.125, 8.0, (box, z) -> box.rod(2, 0, z));
        rangeOfTwo("rod", (box, i, j) -> box.rod(i, j, 5.0));
    }

    private static void rangesOfStuck() {
        wholes("stuck: on", 0, 3, (box, z) -> box.stuck(z, true));
        wholes("stuck: off", 0, 3, (box, z) -> box.stuck(z, false));
    }

    /** "0.0 .. 1000.0, or (below 0.0) off; above 1000.0: bad". */
    private static void rangesOfThermostat() {
        double[] off = {Double.NEGATIVE_INFINITY, -Double.MAX_VALUE, -1.0, -Double.MIN_VALUE};
        for (double z : off) {
            CHECK.same("thermostat " + z + " is off", heatAfterStep(z), 9.0);
        }
        double[] on = {-0.0, 0.0, Double.MIN_VALUE};
        for (double z : on) {
            CHECK.holds("thermostat " + z + " is on", heatAfterStep(z) < 1e-20);
        }
        CHECK.holds("thermostat: a degree below", near(heatAfterStep(999.0), 999.0));
        CHECK.holds("thermostat: the most", near(heatAfterStep(1000.0), 1000.0));
        double[] above = {Math.nextUp(1000.0), Double.MAX_VALUE, Double.POSITIVE_INFINITY,
            Double.NaN};
        for (double z : above) {
            bad("thermostat " + z, box -> box.thermostat(z));
        }
    }

    /** TEMPERATURE of an atom that had 9.0 before the STEP. */
    private static double heatAfterStep(double thermostat) {
        ParticleBox box = new ParticleBox(64);
        box.atom(4.0, 4.0, 2.0, 0);
        box.speed(0, 3.0, 0.0);
        box.thermostat(5.0);
        box.thermostat(thermostat);
        box.step(1, 1);
        return box.temperature();
    }

    private static boolean near(double got, double due) {
        return Math.abs(got - due) < 1e-9;
    }

    private static void rangesOfStep() {
        wholes("step: n", 1, 50, (box, z) -> box.step(z, 1));
        wholes("step: d", 1, 128, (box, z) -> box.step(1, z));
        for (int n = 1; n <= 50; n++) {
            CHECK.same("step: way of " + n, wayOf(n, 1), n / 1024.0);
        }
        for (int d = 1; d <= 128; d++) {
            CHECK.same("step: way of a step of " + d, wayOf(1, d), d / 1024.0);
        }
        CHECK.same("step: way of the most", wayOf(50, 128), 6.25);
    }

    private static double wayOf(int n, int d) {
        ParticleBox box = new ParticleBox(64);
        box.atom(0.0, 0.0, 1.0, 0);
        box.speed(0, 1.0, 0.0);
        box.step(n, d);
        CHECK.same("step: how many", box.count(3), n);
        return box.told(0, 0);
    }

    private static void rangesOfScale() {
        numbers("scale", 0.0, 1000.0, (box, z) -> box.scale(z));
    }

    private static void rangesOfWhatIsAsked() {
        wholes("energy: kind", 0, 2, (box, z) -> box.energy(z));
        wholes("force: i", 0, 3, (box, z) -> box.force(z, 0));
        wholes("force: axis", 0, 1, (box, z) -> box.force(0, z));
        wholes("told: i", 0, 3, (box, z) -> box.told(z, 0));
        wholes("told: what", 0, 4, (box, z) -> box.told(0, z));
        wholes("bin: a", 0, 2, (box, z) -> box.bin(z, 1, 1));
        wholes("bin: b", 0, 2, (box, z) -> box.bin(1, z, 1));
        wholes("bin: bin", 0, 15, (box, z) -> box.bin(1, 1, z));
    }

    /** "else -1": count throws for nothing. */
    private static void countOfNothing() {
        ParticleBox box = Twins.lively();
        CHECK.same("count: the first", box.count(0), 4);
        CHECK.same("count: the last", box.count(9), 1);
        int[] none = {Integer.MIN_VALUE, -2, -1, 10, 11, Integer.MAX_VALUE};
        for (int what : none) {
            CHECK.same("count " + what, box.count(what), -1);
        }
    }

    /** "SIDE * 0.5" is the most for CUT and for the lengths of BONDS and RODS. */
    private static void lengthsFollowTheSide() {
        int[] sides = {8, 9, 33, 64};
        for (int side : sides) {
            Supplier<ParticleBox> making = () -> twoOf(side);
            double most = side * 0.5 * 0.5;
            taken("side " + side + ": cut", making, box -> box.cut(most, 1.0));
            taken("side " + side + ": bond", making, box -> box.bond(0, 1, 1.0, most));
            taken("side " + side + ": rod", making, box -> box.rod(0, 1, most));
            double more = Math.nextUp(most);
            Twins.refused(CHECK, "side " + side + ": cut above", BAD, making,
                    box -> box.cut(more, 1.0));
            Twins.refused(CHECK, "side " + side + ": bond above", BAD, making,
                    box -> box.bond(0, 1, 1.0, more));
            Twins.refused(CHECK, "side " + side + ": rod above", BAD, making,
                    box -> box.rod(0, 1, more));
        }
    }

    private static ParticleBox twoOf(int side) {
        ParticleBox box = new ParticleBox(side);
        box.atom(0.5, 0.5, 1.0, 0);
        box.atom(2.0, 1.0, 1.0, 1);
        box.speed(0, 1.0, 3.0);
        return box;
    }

    /** "ATOMS (at most 10)", "10 are there: no room". */
    private static void tenAtomsHaveRoom() {
        ParticleBox box = new ParticleBox(64);
        for (int i = 0; i < 10; i++) {
            CHECK.same("atom: number", box.atom(3.0 * i, 0.0, 1.0, i % 3), i);
            CHECK.same("atom: how many", box.count(0), i + 1);
        }
        Twins.refused(CHECK, "atom: the eleventh", NOT_NOW, Twins::full,
                full -> full.atom(1.0, 9.0, 1.0, 0));
    }

    /** "A BOND (at most 8)". */
    private static void eightBondsHaveRoom() {
        ParticleBox box = twoOf(64);
        for (int k = 1; k <= 8; k++) {
            CHECK.same("bond: how many", box.bond(k % 2, 1 - k % 2, 1.0, 1.0), k);
            CHECK.same("bond: counted", box.count(1), k);
        }
        CHECK.same("bond: rods", box.count(2), 0);
        Twins.refused(CHECK, "bond: the ninth", NOT_NOW, Twins::full,
                full -> full.bond(0, 1, 9.0, 1.0));
    }

    /** "A ROD (at most 4)". */
    private static void fourRodsHaveRoom() {
        ParticleBox box = twoOf(64);
        for (int k = 1; k <= 4; k++) {
            CHECK.same("rod: how many", box.rod(k % 2, 1 - k % 2, 1.0), k);
            CHECK.same("rod: counted", box.count(2), k);
        }
        CHECK.same("rod: bonds", box.count(1), 0);
        Twins.refused(CHECK, "rod: the fifth", NOT_NOW, Twins::full, full -> full.rod(0, 1, 9.0));
    }

    /** "Bad ... comes first", in a box where nothing has room. */
    private static void badComesBeforeNoRoom() {
        badWhenFull("atom: x", box -> box.atom(-1001.0, 9.0, 1.0, 0));
        badWhenFull("atom: y", box -> box.atom(1.0, 1001.0, 1.0, 0));
        badWhenFull("atom: mass", box -> box.atom(1.0, 9.0, 0.0, 0));
        badWhenFull("atom: sort", box -> box.atom(1.0, 9.0, 1.0, 3));
        badWhenFull("bond: i", box -> box.bond(10, 1, 1.0, 1.0));
        badWhenFull("bond: j", box -> box.bond(0, -1, 1.0, 1.0));
        badWhenFull("bond: i is j", box -> box.bond(9, 9, 1.0, 1.0));
        badWhenFull("bond: strength", box -> box.bond(0, 1, 65.0, 1.0));
        badWhenFull("bond: length", box -> box.bond(0, 1, 1.0, 0.0));
        badWhenFull("rod: i", box -> box.rod(-1, 1, 1.0));
        badWhenFull("rod: j", box -> box.rod(0, 10, 1.0));
        badWhenFull("rod: i is j", box -> box.rod(0, 0, 1.0));
        badWhenFull("rod: length", box -> box.rod(0, 1, 17.0));
    }

    private static void badWhenFull(String what, Consumer<ParticleBox> call) {
        Twins.refused(CHECK, what + ", full", BAD, Twins::full, call);
    }

    private static void badComesBeforeOverlap() {
        Supplier<ParticleBox> making = () -> {
            ParticleBox box = Twins.lively();
            box.place(0, box.told(1, 0), box.told(1, 1));
            return box;
        };
        Twins.refused(CHECK, "overlap: energy -1", BAD, making, box -> box.energy(-1));
        Twins.refused(CHECK, "overlap: energy 3", BAD, making, box -> box.energy(3));
        Twins.refused(CHECK, "overlap: force of 4", BAD, making, box -> box.force(4, 0));
        Twins.refused(CHECK, "overlap: force, axis 2", BAD, making, box -> box.force(0, 2));
        Twins.refused(CHECK, "overlap: step 0", BAD, making, box -> box.step(0, 1));
        Twins.refused(CHECK, "overlap: step of 129", BAD, making, box -> box.step(1, 129));
        Class<?> broken = ArithmeticException.class;
        Twins.refused(CHECK, "overlap: energy 0", broken, making, box -> box.energy(0));
        Twins.refused(CHECK, "overlap: energy 1", broken, making, box -> box.energy(1));
        Twins.refused(CHECK, "overlap: force", broken, making, box -> box.force(3, 1));
        taken("overlap: energy 2", making, box -> box.energy(2));
        taken("overlap: sample", making, box -> box.sample());
        taken("overlap: scale", making, box -> box.scale(1.0));
    }

    /** In a box without atoms 0 is no atom either. */
    private static void emptyBoxHasNoAtomToName() {
        badWhenEmpty("place", box -> box.place(0, 1.0, 1.0));
        badWhenEmpty("speed", box -> box.speed(0, 1.0, 1.0));
        badWhenEmpty("stuck", box -> box.stuck(0, true));
        badWhenEmpty("bond", box -> box.bond(0, 1, 1.0, 1.0));
        badWhenEmpty("rod", box -> box.rod(0, 1, 1.0));
        badWhenEmpty("force", box -> box.force(0, 0));
        badWhenEmpty("told", box -> box.told(0, 0));
    }

    private static void badWhenEmpty(String what, Consumer<ParticleBox> call) {
        Twins.refused(CHECK, what + ", empty", BAD, () -> new ParticleBox(24), call);
    }

    /** "No atoms: IllegalStateException", but bad comes first; one atom is enough. */
    private static void emptyBoxMakesNoStep() {
        Supplier<ParticleBox> empty = () -> new ParticleBox(24);
        Twins.refused(CHECK, "empty: step", NOT_NOW, empty, box -> box.step(1, 1));
        Twins.refused(CHECK, "empty: longest step", NOT_NOW, empty, box -> box.step(50, 128));
        badWhenEmpty("step 0", box -> box.step(0, 1));
        badWhenEmpty("step 51", box -> box.step(51, 1));
        badWhenEmpty("step of 0", box -> box.step(1, 0));
        badWhenEmpty("step of 129", box -> box.step(1, 129));
        ParticleBox box = empty.get();
        box.atom(1.0, 1.0, 1.0, 0);
        box.step(1, 1);
        CHECK.same("one atom: step", box.count(3), 1);
    }

    private static void emptyBoxAnswers() {
        ParticleBox box = new ParticleBox(24);
        for (int what = 0; what <= 9; what++) {
            CHECK.same("empty: count " + what, box.count(what), 0);
        }
        for (int kind = 0; kind <= 2; kind++) {
            CHECK.same("empty: energy " + kind, box.energy(kind), 0.0);
        }
        CHECK.same("empty: temperature", box.temperature(), 0.0);
        CHECK.same("empty: scale", box.scale(1000.0), 0.0);
        CHECK.same("empty: sample", box.sample(), 0);
        CHECK.same("empty: samples", box.count(6), 1);
        CHECK.same("empty: bin", box.bin(0, 0, 0), 0);
    }

    private static void numbers(String what, double least, double most, WithDouble call) {
        double[] good = {least, Math.nextUp(least), Math.nextDown(most), most};
        for (double z : good) {
            taken(what + " " + z, Twins::lively, box -> call.on(box, z));
        }
        double[] bad = {Math.nextDown(least), least - 1.0, -Double.MAX_VALUE,
            Double.NEGATIVE_INFINITY, Math.nextUp(most), most + 1.0, Double.MAX_VALUE,
            Double.POSITIVE_INFINITY, Double.NaN};
        for (double z : bad) {
            bad(what + " " + z, box -> call.on(box, z));
        }
    }

    private static void wholes(String what, int least, int most, WithInt call) {
        for (int z = least; z <= most; z++) {
            int good = z;
            taken(what + " " + z, Twins::lively, box -> call.on(box, good));
        }
        int[] bad = {least - 1, Integer.MIN_VALUE, most + 1, Integer.MAX_VALUE};
        for (int z : bad) {
            bad(what + " " + z, box -> call.on(box, z));
        }
    }

    /** "i and j different", and both there. */
    private static void rangeOfTwo(String what, WithTwo call) {
        for (int i = -1; i <= 4; i++) {
            for (int j = -1; j <= 4; j++) {
                int one = i;
                int two = j;
                String name = what + " of " + i + " and " + j;
                if (i == j || Math.min(i, j) < 0 || Math.max(i, j) > 3) {
                    bad(name, box -> call.on(box, one, two));
                } else {
                    taken(name, Twins::lively, box -> call.on(box, one, two));
                }
            }
        }
        int[] far = {Integer.MIN_VALUE, Integer.MAX_VALUE};
        for (int z : far) {
            bad(what + " of " + z, box -> call.on(box, z, 0));
            bad(what + " with " + z, box -> call.on(box, 0, z));
        }
    }

    private static void bad(String what, Consumer<ParticleBox> call) {
        Twins.refused(CHECK, what, BAD, Twins::lively, call);
    }

    private static void taken(String what, Supplier<ParticleBox> making,
            Consumer<ParticleBox> call) {
        String thrown = "";
        try {
            call.accept(making.get());
        } catch (RuntimeException e) {
            thrown = " throws " + e.getClass().getSimpleName();
        }
        CHECK.holds(what + thrown, thrown.isEmpty());
    }
}
