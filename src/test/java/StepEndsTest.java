import java.util.function.Supplier;

/**
 * How a STEP ends: the edges of OVERLAP, STIFF and BLOWN, what a STEP that does not end well leaves
 * and counts, and how often THE LIST is made. Numbers with many digits were searched for: with them
 * a reckoning in double meets its edge to the last digit.
 */
public final class StepEndsTest {
    private static final Check CHECK = new Check("StepEndsTest");
    private static final int OVERLAPS = 7;
    private static final int STIFF = 8;
    private static final int BLOWN = 9;

    public static void main(String[] args) {
        rodFaultHasAnEdge();
        stiffHasAnEdge();
        stiffWhenBothAreStuck();
        rodThrowsFarOff();
        roundsHaveAnEnd();
        overlapAtTheBeginningHasAnEdge();
        overlapAfterTheWayHasAnEdge();
        blownAfterFirstPushHasAnEdge();
        blownAfterRodsHasAnEdge();
        blownAfterLastPushHasAnEdge();
        blownWhateverTheThermostat();
        firstEndCounts();
        failedStepLeavesAllAsItWas();
        failedStepCountsNoRounds();
        stepsBeforeAFailureStay();
        listFollowsTheSkin();
        listAtHalfTheSkin();
        listAcrossTheEdge();
        listForEachAtom();
        listTwiceInAStep();
        listStaysThroughOtherCalls();
        listAfterAFailedStep();
        CHECK.end();
    }

    /** "if |r2 - l * l| is above 0.000001 * l * l": at rest, so that the places are exact. */
    private static void rodFaultHasAnEdge() {
        roundsOfRod("within", 3.77174220774632, 3.7717440936169524, -1);
        roundsOfRod("within", 3.77174220774632, 3.7717403218747445, -1);
        roundsOfRod("at the edge", 2.602094736586514, 2.602096037633557, 0);
        roundsOfRod("at the edge", 2.602094736586514, 2.6020934355388206, 0);
        roundsOfRod("beyond", 1.9557286495988593, 1.9557296274629397, 1);
        roundsOfRod("beyond", 4.223669057699771, 4.223666945864714, 1);
        roundsOfRod("fits", 3.0, 3.0, -1);
    }

    /** Side tells on which side of the edge the fault is: it is at most the nearest number there. */
    private static void roundsOfRod(String what, double length, double way, int side) {
        double fault = Math.abs(way * way - length * length);
        double most = 0.000001 * length * length;
        CHECK.same("rod, " + what + ": met", Double.compare(fault, most), side);
        for (int axis = 0; axis < 2; axis++) {
            ParticleBox box = along(axis, way);
            box.rod(0, 1, length);
            box.step(1, 128);
            CHECK.same("rod, " + what + ": rounds", box.count(5), side > 0 ? 1 : 0);
            CHECK.holds("rod, " + what + ": place", box.told(1, axis) != way == side > 0);
            CHECK.holds("rod, " + what + ": speed", box.told(1, 2 + axis) != 0.0 == side > 0);
        }
    }

    /**
     * "if h is above -0.000001 and below 0.000001: STIFF". The ROD stood upright with a lean of
     * 0.0000005 and is turned flat: w is 2.0 times that lean, and h is w, for the mass is 2.0.
     */
    private static void stiffHasAnEdge() {
        double[] lean = {0.0, Math.nextDown(0.0000005), 0.0000005, Math.nextUp(0.0000005)};
        boolean[] due = {true, true, false, false};
        for (int k = 0; k < lean.length; k++) {
            for (double flat = -2.0; flat <= 2.0; flat += 4.0) {
                String what = "stiff, lean " + lean[k] + ", flat " + flat;
                CHECK.same(what + ": met", lean[k] + 0.125 * ((flat - lean[k]) * 8.0), flat);
                isStiff(what + " along x", turned(1, lean[k], flat), due[k]);
                isStiff(what + " along y", turned(0, lean[k], flat), due[k]);
            }
        }
    }

    /** A ROD a little too long, from (lean, 1.0) to (flat, 0.0) in one STEP; axis 0 is the other way. */
    private static ParticleBox turned(int axis, double lean, double flat) {
        ParticleBox box = new ParticleBox(64);
        box.cut(0.5, 0.5);
        box.atom(0.0, 0.0, 1.0, 0);
        box.stuck(0, true);
        double speed = (flat - lean) * 8.0;
        if (axis == 1) {
            box.atom(lean, 1.0, 2.0, 0);
            box.speed(1, speed, -8.0);
        } else {
            box.atom(1.0, lean, 2.0, 0);
            box.speed(1, -8.0, speed);
        }
        box.rod(0, 1, 2.0000012);
        return box;
    }

    private static void isStiff(String what, ParticleBox box, boolean due) {
        if (due) {
            CHECK.broken(what, () -> box.step(1, 128));
        } else {
            box.step(1, 128);
        }
        CHECK.same(what + ": stiff", box.count(STIFF), due ? 1 : 0);
        CHECK.same(what + ": done", box.count(3), due ? 0 : 1);
        CHECK.holds(what + ": rounds", box.count(5) > 1 != due);
    }

    /** "0.0 if STUCK": with both STUCK h is 0.0, unless the ROD needs nothing. */
    private static void stiffWhenBothAreStuck() {
        double[] way = {2.999, 3.0, 3.001};
        for (int k = 0; k < way.length; k++) {
            for (int axis = 0; axis < 2; axis++) {
                ParticleBox box = along(axis, way[k]);
                box.rod(0, 1, 3.0);
                box.stuck(0, true);
                box.stuck(1, true);
                String what = "both stuck, " + way[k];
                if (k == 1) {
                    box.step(1, 128);
                } else {
                    CHECK.broken(what, () -> box.step(1, 128));
                }
                CHECK.same(what + ": stiff", box.count(STIFF), k == 1 ? 0 : 1);
                CHECK.same(what + ": place", box.told(1, axis), way[k]);
            }
        }
    }

    /**
     * FLOOR has no end: h is so small that the ROD throws the atoms more than 2^31 SIDES apart. What
     * the rounds then find tells whether the way was measured rightly. PlainBox takes Math.floor.
     */
    private static void rodThrowsFarOff() {
        thrownOff(15.796875, 16.01953125, 1.5625, -1.6885770769743544, 13.5625, BLOWN);
        thrownOff(15.92578125, 16.09375, -0.4375, -1.625345364144735, 11.4375, BLOWN);
        thrownOff(15.81640625, 16.140625, 1.3125, -1.6276247116898475, 12.625, STIFF);
        thrownOff(15.875, 16.140625, 0.3125, -1.6870689846035987, 13.125, STIFF);
    }

    private static void thrownOff(double x, double y, double u, double v, double length, int due) {
        ParticleBox box = new ParticleBox(64);
        box.cut(0.5, 0.5);
        box.atom(0.0, 0.0, 0.125, 0);
        box.atom(x, y, 0.125, 0);
        box.speed(1, u, v);
        box.rod(0, 1, length);
        PlainBox plain = new PlainBox(64);
        plain.cut(0.5, 0.5);
        plain.atom(0.0, 0.0, 0.125, 0);
        plain.atom(x, y, 0.125, 0);
        plain.speed(1, u, v);
        plain.rod(0, 1, length);
        CHECK.broken("far off", () -> box.step(1, 128));
        CHECK.broken("far off, plain", () -> plain.step(1, 128));
        CHECK.same("far off: the end", box.count(due), 1);
        CHECK.same("far off: the end, plain", plain.count(due), 1);
    }

    /**
     * "after 40 that changed something: STIFF". A light atom between two heavy ones: the lengths
     * were chosen for 39 and for 40 rounds.
     */
    private static void roundsHaveAnEnd() {
        ParticleBox box = chain(2.0 + 176.0 / 16777216.0);
        box.step(1, 1);
        CHECK.same("39 rounds", box.count(5), 39);
        CHECK.same("39 rounds: not stiff", box.count(STIFF), 0);
        ParticleBox more = chain(2.0 + 184.0 / 16777216.0);
        CHECK.broken("40 rounds", () -> more.step(1, 1));
        CHECK.same("40 rounds: not counted", more.count(5), 0);
        CHECK.same("40 rounds: stiff", more.count(STIFF), 1);
    }

    private static ParticleBox chain(double second) {
        ParticleBox box = new ParticleBox(64);
        box.cut(0.5, 0.5);
        box.atom(2.0, 4.0, 4.0, 0);
        box.atom(4.0, 4.0, 0.125, 0);
        box.atom(6.0, 4.0, 4.0, 0);
        box.rod(0, 1, 2.0);
        box.rod(1, 2, second);
        return box;
    }

    /** "OVERLAP at the beginning of a STEP": before anything goes. */
    private static void overlapAtTheBeginningHasAnEdge() {
        double[] way = {0.0, Math.nextDown(0.03125), 0.03125, Math.nextUp(0.03125)};
        for (int k = 0; k < way.length; k++) {
            for (int axis = 0; axis < 2; axis++) {
                ParticleBox box = along(axis, way[k]);
                box.sort(0, 0.125, 0.0, 0.0);
                go(box, axis, 8.0);
                endsWithOverlap("overlap at first, " + way[k], box, k < 2);
            }
        }
    }

    /** "or after 5": the way of 1.0 ends beside the other atom. */
    private static void overlapAfterTheWayHasAnEdge() {
        double[] way = {1.0, 1.03125 - Math.ulp(1.0), 1.03125, 1.03125 + Math.ulp(1.0)};
        for (int k = 0; k < way.length; k++) {
            for (int axis = 0; axis < 2; axis++) {
                ParticleBox box = along(axis, way[k]);
                box.sort(0, 0.125, 0.0, 0.0);
                go(box, axis, -8.0);
                endsWithOverlap("overlap after, " + way[k], box, k < 2);
            }
        }
    }

    private static void endsWithOverlap(String what, ParticleBox box, boolean due) {
        if (due) {
            CHECK.broken(what, () -> box.step(1, 128));
        } else {
            box.step(1, 128);
        }
        CHECK.same(what + ": overlaps", box.count(OVERLAPS), due ? 1 : 0);
        CHECK.same(what + ": done", box.count(3), due ? 0 : 1);
    }

    /**
     * "A speed above 1000000.0 or below -1000000.0 after 1". Eight strong BONDS and a speed of just
     * what is lacking. The way of that STEP ends beyond the other atom: the last push slows.
     */
    private static void blownAfterFirstPushHasAnEdge() {
        double digit = Math.ulp(1000000.0);
        for (int axis = 0; axis < 2; axis++) {
            for (double sign = -1.0; sign <= 1.0; sign += 2.0) {
                String what = "blown after 1, along " + axis + ", " + sign;
                blowsIn(what + ", below", pulled(axis, sign, -digit), 127, false, 0);
                blowsIn(what + ", at the edge", pulled(axis, sign, 0.0), 127, false, 0);
                blowsIn(what + ", above", pulled(axis, sign, digit), 127, true, 1);
            }
        }
    }

    private static ParticleBox pulled(int axis, double sign, double more) {
        ParticleBox box = new ParticleBox(64);
        box.cut(0.5, 0.0);
        double way = sign * 15.9375;
        box.atom(16.0, 16.0, 0.125, 0);
        box.atom(16.0 + (axis == 0 ? way : 0.0), 16.0 + (axis == 1 ? way : 0.0), 1.0, 0);
        box.stuck(1, true);
        for (int k = 0; k < 8; k++) {
            box.bond(0, 1, 62.25, 0.125);
        }
        double push = 0.5 * (127.0 / 1024.0) * (box.force(0, axis) / 0.125);
        double given = sign * (1000000.0 + more) - push;
        CHECK.same("blown after 1: met", given + push, sign * (1000000.0 + more));
        box.speed(0, axis == 0 ? given : 0.0, axis == 1 ? given : 0.0);
        return box;
    }

    /** "after ... 4": the push alone gives a speed of 999982.4, the ROD lengthens the way. */
    private static void blownAfterRodsHasAnEdge() {
        double length = 8.441071510321112;
        for (int axis = 0; axis < 2; axis++) {
            for (double sign = -1.0; sign <= 1.0; sign += 2.0) {
                String what = "blown after 4, along " + axis + ", " + sign;
                ParticleBox edge = pushed(axis, sign);
                edge.rod(0, 1, length);
                blowsIn(what + ", at the edge", edge, 128, false, 0);
                CHECK.same(what + ": the speed", edge.told(1, 2 + axis), sign * 1000000.0);
                ParticleBox above = pushed(axis, sign);
                above.rod(0, 1, Math.nextUp(length));
                blowsIn(what + ", above", above, 128, true, 1);
                blowsIn(what + ", without a rod", pushed(axis, sign), 128, false, 0);
            }
        }
    }

    private static ParticleBox pushed(int axis, double sign) {
        ParticleBox box = new ParticleBox(64);
        box.cut(0.5, 0.5);
        double way = sign * 462497.0 / 1048576.0;
        box.atom(16.0, 16.0, 0.125, 0);
        box.atom(16.0 + (axis == 0 ? way : 0.0), 16.0 + (axis == 1 ? way : 0.0), 0.125, 0);
        box.stuck(0, true);
        return box;
    }

    /** "or 7": it arrives beside a STUCK atom and is pushed, with a speed of just what is lacking. */
    private static void blownAfterLastPushHasAnEdge() {
        double digit = Math.ulp(1000000.0);
        for (int axis = 0; axis < 2; axis++) {
            for (double sign = -1.0; sign <= 1.0; sign += 2.0) {
                String what = "blown after 7, along " + axis + ", " + sign;
                ParticleBox edge = arriving(axis, sign, 0.0);
                blowsIn(what + ", at the edge", edge, 128, false, 0);
                CHECK.same(what + ": the speed", edge.told(1, 2 + axis), sign * 1000000.0);
                blowsIn(what + ", below", arriving(axis, sign, -digit), 128, false, 0);
                blowsIn(what + ", above", arriving(axis, sign, digit), 128, true, 2);
            }
        }
    }

    /** It comes from aside, by a way of 1.0, to where it is 0.4375 off. */
    private static ParticleBox arriving(int axis, double sign, double more) {
        ParticleBox box = new ParticleBox(64);
        box.cut(0.5, 0.0);
        box.sort(0, 1.0, 7.1953125, 0.0);
        box.atom(16.0, 16.0, 1.0, 0);
        box.stuck(0, true);
        double there = 16.0 + sign * 0.4375;
        box.atom(axis == 0 ? there : 16.0, axis == 1 ? there : 16.0, 1.0, 0);
        double push = 0.5 * 0.125 * box.force(1, axis);
        double given = sign * (1000000.0 + more) - push;
        CHECK.same("blown after 7: met", given + push, sign * (1000000.0 + more));
        double from = there - 0.125 * given;
        CHECK.same("blown after 7: place", from + 0.125 * given, there);
        box.place(1, axis == 0 ? from : 17.0, axis == 1 ? from : 17.0);
        box.speed(1, axis == 0 ? given : -8.0, axis == 1 ? given : -8.0);
        return box;
    }

    /** BLOWN is looked for after 7, before 8 could slow the atoms. */
    private static void blownWhateverTheThermostat() {
        ParticleBox box = arriving(0, 1.0, Math.ulp(1000000.0));
        box.thermostat(1.0);
        blowsIn("blown before the thermostat", box, 128, true, 2);
        ParticleBox edge = arriving(0, 1.0, 0.0);
        edge.thermostat(1.0);
        blowsIn("not blown, and then the thermostat", edge, 128, false, 0);
        CHECK.holds("not blown: slowed", edge.told(1, 2) < 2.0);
    }

    /** Of two ends of one STEP the earlier is the one that is counted. */
    private static void firstEndCounts() {
        countsOnly("overlap at first, then stiff", withBadRod(overlapped()), 128, OVERLAPS, 1);
        countsOnly("blown after 1, then stiff", withBadRod(pulled(0, 1.0, 1.0)), 127, BLOWN, 1);
        countsOnly("stiff, then overlap", withBadRod(meeting(0.5)), 128, STIFF, 1);
        countsOnly("stiff, then blown after 7", withBadRod(arriving(0, 1.0, 1.0)), 128, STIFF, 1);
        countsOnly("blown after 4, then overlap", withMeeting(lengthened()), 128, BLOWN, 1);
        countsOnly("overlap, then blown", withMeeting(arriving(0, 1.0, 1.0)), 128, OVERLAPS, 2);
    }

    private static void countsOnly(String what, ParticleBox box, int d, int counter, int lists) {
        CHECK.broken(what, () -> box.step(1, d));
        for (int k = OVERLAPS; k <= BLOWN; k++) {
            CHECK.same(what + ": count " + k, box.count(k), k == counter ? 1 : 0);
        }
        CHECK.same(what + ": lists", box.count(4), lists);
    }

    /** With two more atoms, both STUCK, and a ROD that does not fit them. */
    private static ParticleBox withBadRod(ParticleBox box) {
        int i = box.atom(28.0, 28.0, 1.0, 0);
        int j = box.atom(30.0, 28.0, 1.0, 0);
        box.stuck(i, true);
        box.stuck(j, true);
        box.rod(i, j, 1.0);
        return box;
    }

    /** With two more atoms that meet within a STEP of 128. */
    private static ParticleBox withMeeting(ParticleBox box) {
        int i = box.atom(28.0, 28.0, 1.0, 0);
        box.atom(29.0, 28.0, 1.0, 0);
        box.speed(i, 8.0, 0.0);
        return box;
    }

    private static void blowsIn(String what, ParticleBox box, int d, boolean due, int lists) {
        if (due) {
            CHECK.broken(what, () -> box.step(1, d));
            CHECK.same(what + ": lists", box.count(4), lists);
        } else {
            box.step(1, d);
        }
        CHECK.same(what + ": blown", box.count(BLOWN), due ? 1 : 0);
        CHECK.same(what + ": done", box.count(3), due ? 0 : 1);
    }

    /** "end the STEP; all is as it was before it", whichever way it ends; each is counted by itself. */
    private static void failedStepLeavesAllAsItWas() {
        leaves("overlap at first", StepEndsTest::overlapped, 128, OVERLAPS, 1);
        leaves("overlap after 5", () -> meeting(0.5), 128, OVERLAPS, 2);
        leaves("overlap after 5, wide skin", () -> meeting(4.0), 128, OVERLAPS, 1);
        leaves("stiff, turned", StepEndsTest::turnedWithOthers, 128, STIFF, 1);
        leaves("stiff, both stuck", StepEndsTest::bothStuck, 8, STIFF, 1);
        leaves("stiff, 40 rounds", () -> chain(2.5), 8, STIFF, 1);
        leaves("blown after 1", () -> pulled(0, 1.0, 1.0), 127, BLOWN, 1);
        leaves("blown after 4", StepEndsTest::lengthened, 128, BLOWN, 1);
        leaves("blown after 7", () -> arriving(1, -1.0, 1.0), 128, BLOWN, 2);
    }

    private static void leaves(String what, Supplier<ParticleBox> making, int d, int counter,
            int lists) {
        ParticleBox box = making.get();
        ParticleBox twin = making.get();
        int[] due = Twins.counts(box);
        for (int n = 1; n <= 2; n++) {
            int steps = n == 1 ? 1 : 50;
            CHECK.broken(what, () -> box.step(steps, d));
            Twins.alike(CHECK, what, Twins.matter(box), Twins.matter(twin));
            due[counter]++;
            due[4] += lists;
            int[] got = Twins.counts(box);
            for (int k = 0; k < due.length; k++) {
                CHECK.same(what + ": count " + k, got[k], due[k]);
            }
        }
        ParticleBox later = making.get();
        CHECK.broken(what + ", later", () -> later.step(1, d));
        Twins.alike(CHECK, what + ", later", Twins.future(later), Twins.future(making.get()));
    }

    private static ParticleBox overlapped() {
        ParticleBox box = atEase();
        box.place(2, 4.0, 4.0);
        return box;
    }

    private static ParticleBox meeting(double skin) {
        ParticleBox box = atEase();
        box.cut(0.5, skin);
        box.place(2, 5.0, 4.0);
        box.speed(2, -8.0, 0.0);
        box.speed(0, 0.0, 0.0);
        return box;
    }

    private static ParticleBox turnedWithOthers() {
        ParticleBox box = atEase();
        box.rod(0, 1, 2.0);
        box.stuck(0, true);
        box.speed(1, -16.0, 24.0);
        box.speed(2, 3.0, -5.0);
        return box;
    }

    private static ParticleBox bothStuck() {
        ParticleBox box = atEase();
        box.rod(0, 1, 2.0);
        box.rod(0, 2, 3.0);
        box.stuck(0, true);
        box.stuck(2, true);
        return box;
    }

    private static ParticleBox lengthened() {
        ParticleBox box = pushed(0, 1.0);
        box.atom(2.0, 2.0, 1.0, 1);
        box.speed(2, 1.0, -3.0);
        box.rod(0, 1, 8.5);
        return box;
    }

    /** Three atoms that go freely, the first two 2.0 apart; a THERMOSTAT and a sample as well. */
    private static ParticleBox atEase() {
        ParticleBox box = new ParticleBox(64);
        box.atom(4.0, 4.0, 1.0, 0);
        box.atom(6.0, 4.0, 2.0, 1);
        box.atom(20.0, 20.0, 4.0, 2);
        box.sample();
        box.cut(0.5, 0.5);
        box.speed(0, 0.5, 0.25);
        box.speed(1, 0.5, 0.25);
        box.thermostat(3.0);
        return box;
    }

    /** "rounds for RODS that changed something, in STEPS that were done". */
    private static void failedStepCountsNoRounds() {
        ParticleBox done = Twins.turning();
        done.step(1, 128);
        CHECK.same("rounds: of a step that was done", done.count(5), 10);
        ParticleBox box = Twins.turning();
        box.atom(5.0, 3.0, 1.0, 0);
        CHECK.broken("rounds: overlap after 5", () -> box.step(1, 128));
        CHECK.same("rounds: overlap after 5", box.count(OVERLAPS), 1);
        CHECK.same("rounds: not of that", box.count(5), 0);
        box.place(2, 20.0, 20.0);
        box.step(1, 128);
        CHECK.same("rounds: of the next", box.count(5), 10);
        ParticleBox blown = lengthened();
        CHECK.broken("rounds: blown after 4", () -> blown.step(1, 128));
        CHECK.same("rounds: not of that either", blown.count(5), 0);
    }

    /** "the STEPS done before stay": each of these fails in its third STEP. */
    private static void stepsBeforeAFailureStay() {
        failsInTheThird("overlap", StepEndsTest::towards, OVERLAPS, 1);
        failsInTheThird("stiff", StepEndsTest::kickedOnItsRod, STIFF, 0);
        failsInTheThird("blown after 1", () -> passing(4.0, 18.0), BLOWN, 0);
        failsInTheThird("blown after 7", () -> passing(8.0, 19.0), BLOWN, 1);
    }

    /** Lists: how many the failed STEP makes, when THE LIST was there at its beginning. */
    private static void failsInTheThird(String what, Supplier<ParticleBox> making, int counter,
            int lists) {
        ParticleBox box = making.get();
        ParticleBox twin = making.get();
        CHECK.broken(what + " in the third of 50", () -> box.step(50, 128));
        ParticleBox last = making.get();
        CHECK.broken(what + " in the last of 3", () -> last.step(3, 128));
        CHECK.same(what + " in the last of 3: steps", last.count(3), 2);
        twin.step(2, 128);
        Twins.alike(CHECK, what + " in the third", Twins.matter(box), Twins.matter(twin));
        int[] due = Twins.counts(twin);
        due[4] += lists;
        due[counter]++;
        int[] got = Twins.counts(box);
        CHECK.same(what + " in the third: steps", got[3], 2);
        for (int k = 0; k < due.length; k++) {
            CHECK.same(what + " in the third: count " + k, got[k], due[k]);
        }
        box.cut(0.5, 0.0);
        twin.cut(0.5, 0.0);
        Twins.alike(CHECK, what + ", after the third", Twins.future(box), Twins.future(twin));
    }

    /** Meets the other atom in the third STEP, by ways of 1.0. */
    private static ParticleBox towards() {
        ParticleBox box = along(0, 3.0);
        box.cut(0.5, 0.0);
        box.speed(1, -8.0, 0.0);
        return box;
    }

    /** Goes round a STUCK atom on its ROD, comes near another STUCK one, and is thrown off. */
    private static ParticleBox kickedOnItsRod() {
        ParticleBox box = new ParticleBox(64);
        box.cut(0.5, 0.0);
        box.sort(0, 1.0, 1.0 / 1024.0, 0.0);
        box.atom(8.0, 8.0, 1.0, 0);
        box.atom(10.0, 8.0, 1.0, 0);
        box.atom(10.0, 9.25, 1.0, 0);
        box.stuck(0, true);
        box.stuck(2, true);
        box.speed(1, 0.0, 4.0);
        box.rod(0, 1, 2.0);
        return box;
    }

    /** Comes by ways of 1.0 to where a STUCK atom pushes it. */
    private static ParticleBox passing(double depth, double from) {
        ParticleBox box = new ParticleBox(64);
        box.cut(0.5, 0.0);
        box.sort(0, 1.0, depth, 0.0);
        box.atom(16.0, 16.0, 1.0, 0);
        box.stuck(0, true);
        box.atom(16.4375, from, 1.0, 0);
        box.speed(1, 0.0, -8.0);
        return box;
    }

    /** "FROM where it was when THE LIST was made": ways add up, and begin anew with each LIST. */
    private static void listFollowsTheSkin() {
        ParticleBox box = along(1, 8.0);
        box.cut(0.5, 1.0);
        box.speed(0, 2.0, 0.0);
        box.step(2, 128);
        CHECK.same("skin: at half of it", box.count(4), 1);
        box.step(1, 1);
        CHECK.same("skin: above half of it", box.count(4), 2);
        box.step(2, 128);
        CHECK.same("skin: from the new place", box.count(4), 2);
        box.step(1, 1);
        CHECK.same("skin: above it again", box.count(4), 3);
        box.speed(0, -2.0, 0.0);
        box.step(2, 128);
        box.speed(0, 2.0, 0.0);
        box.step(4, 128);
        CHECK.same("skin: there and back", box.count(4), 3);
        box.speed(0, 0.0, 0.0);
        box.step(50, 128);
        CHECK.same("skin: at rest", box.count(4), 3);
    }

    /** "r2 is above (SKIN * 0.5) * (SKIN * 0.5)": not at it, not below it. */
    private static void listAtHalfTheSkin() {
        double[] skins = {0.5, 0.75, 1.0, 4.0};
        for (double skin : skins) {
            double half = skin * 0.5;
            listsOf(skin, Math.nextDown(half), 0.0, 1);
            listsOf(skin, half, 0.0, 1);
            listsOf(skin, Math.nextUp(half), 0.0, 2);
            listsOf(skin, 0.0, Math.nextDown(half), 1);
            listsOf(skin, 0.0, half, 1);
            listsOf(skin, 0.0, Math.nextUp(half), 2);
        }
        listsOf(0.0, 0.0, 0.0, 1);
        listsOf(0.0, 1e-30, 0.0, 2);
        listsOf(0.0, 0.0, 1e-30, 2);
        listsOf(2.5, 0.75, 1.0, 1);
        listsOf(2.5, 0.75, Math.nextDown(1.0), 1);
        listsOf(2.5, 0.75, Math.nextUp(1.0), 2);
    }

    /** The shortest way is measured, over the joined edges too. */
    private static void listAcrossTheEdge() {
        listsOf(0.5, -0.25, 0.0, 1);
        listsOf(0.5, -0.25 - Math.ulp(16.0), 0.0, 2);
        listsOf(0.5, 0.0, -0.25, 1);
        listsOf(0.5, 0.0, -0.25 - Math.ulp(16.0), 2);
        // The place is WRAPPED before it is measured: 32.0 less this way is 31.75 in double.
        listsOf(0.5, -Math.nextUp(0.25), 0.0, 1);
        listsOf(0.5, 0.0, -Math.nextUp(0.25), 1);
        listsOf(0.5, 32.0, -64.0, 1);
        listsOf(0.5, 32.25, -63.75, 2);
        listsOf(4.0, 34.0, 0.0, 1);
        listsOf(4.0, 16.0, 0.0, 2);
    }

    /** How often THE LIST is made in a first STEP by the way (a, b) from (0.0, 0.0). */
    private static void listsOf(double skin, double a, double b, int due) {
        ParticleBox box = new ParticleBox(64);
        box.cut(0.5, skin);
        box.atom(0.0, 0.0, 1.0, 0);
        box.speed(0, a * 8.0, b * 8.0);
        box.step(1, 128);
        CHECK.same("lists, skin " + skin + ", way " + a + ", " + b, box.count(4), due);
    }

    /** "or when for an atom": any one of them. */
    private static void listForEachAtom() {
        for (int i = 0; i < 10; i++) {
            ParticleBox box = new ParticleBox(64);
            for (int k = 0; k < 10; k++) {
                box.atom(3.0 * k, 4.0, 1.0, 0);
            }
            box.cut(0.5, 0.5);
            box.step(1, 128);
            box.speed(i, 0.0, 2.0);
            box.step(1, 128);
            CHECK.same("lists: not yet for " + i, box.count(4), 1);
            box.step(1, 1);
            CHECK.same("lists: for " + i, box.count(4), 2);
        }
    }

    /** "at its beginning, and after 5": both in one STEP, when there was none. */
    private static void listTwiceInAStep() {
        ParticleBox box = along(0, 4.0);
        box.speed(1, 8.0, 0.0);
        box.step(1, 128);
        CHECK.same("lists: twice", box.count(4), 2);
        box.step(3, 128);
        CHECK.same("lists: once in each step after", box.count(4), 5);
        box.place(0, 0.0, 0.0);
        box.step(1, 128);
        CHECK.same("lists: twice after place", box.count(4), 7);
        box.cut(0.5, 4.0);
        box.step(2, 128);
        CHECK.same("lists: once with a wider skin", box.count(4), 8);
        box.atom(20.0, 20.0, 1.0, 0);
        box.step(1, 128);
        CHECK.same("lists: once after atom", box.count(4), 9);
    }

    /** "there is none (at first, after atom, place and cut": after no other call, nor a refused one. */
    private static void listStaysThroughOtherCalls() {
        ParticleBox box = Twins.lively();
        box.cut(3.0, 4.0);
        box.step(1, 1);
        int lists = box.count(4);
        box.speed(0, 0.25, 0.0);
        box.sort(0, 1.5, 1.0, 0.0);
        box.bond(0, 1, 0.0, 5.0);
        box.rod(0, 3, 3.0);
        box.stuck(3, false);
        box.stuck(0, true);
        box.thermostat(2.0);
        box.scale(1.0);
        askAll(box);
        CHECK.bad("list: bad atom", () -> box.atom(0.0, 0.0, 0.0, 0));
        CHECK.bad("list: bad place", () -> box.place(0, 2000.0, 0.0));
        CHECK.bad("list: bad cut", () -> box.cut(100.0, 1.0));
        CHECK.bad("list: bad step", () -> box.step(0, 1));
        box.step(1, 1);
        CHECK.same("list: still the same", box.count(4), lists);
        box.place(0, box.told(0, 0), box.told(0, 1));
        CHECK.same("list: not made by place", box.count(4), lists);
        box.step(1, 1);
        CHECK.same("list: made after place", box.count(4), lists + 1);
        box.atom(0.0, 0.0, 1.0, 0);
        CHECK.same("list: not made by atom", box.count(4), lists + 1);
        box.step(1, 1);
        CHECK.same("list: made after atom", box.count(4), lists + 2);
        box.cut(3.0, 4.0);
        CHECK.same("list: not made by cut", box.count(4), lists + 2);
        box.step(2, 1);
        CHECK.same("list: made after cut", box.count(4), lists + 3);
    }

    private static void askAll(ParticleBox box) {
        box.energy(0);
        box.energy(1);
        box.energy(2);
        box.force(0, 0);
        box.told(0, 0);
        box.temperature();
        box.sample();
        box.bin(0, 0, 0);
        box.count(4);
    }

    /** "and after a STEP that failed": what mends the box here does not undo THE LIST by itself. */
    private static void listAfterAFailedStep() {
        ParticleBox box = along(0, 4.0);
        box.cut(0.5, 4.0);
        box.rod(0, 1, 3.0);
        box.stuck(0, true);
        box.stuck(1, true);
        for (int k = 1; k <= 3; k++) {
            CHECK.broken("failed list", () -> box.step(2, 1));
            CHECK.same("failed list: each time", box.count(4), k);
        }
        box.stuck(1, false);
        box.step(1, 1);
        CHECK.same("failed list: made anew", box.count(4), 4);
        box.step(3, 1);
        CHECK.same("failed list: once", box.count(4), 4);
    }

    /** An atom at (0.0, 0.0) and another along the axis, that make no PAIR beyond 0.5. */
    private static ParticleBox along(int axis, double way) {
        ParticleBox box = new ParticleBox(64);
        box.cut(0.5, 0.5);
        box.atom(0.0, 0.0, 1.0, 0);
        box.atom(axis == 0 ? way : 0.0, axis == 1 ? way : 0.0, 1.0, 0);
        return box;
    }

    private static void go(ParticleBox box, int axis, double speed) {
        box.speed(1, axis == 0 ? speed : 0.0, axis == 1 ? speed : 0.0);
    }
}
