/**
 * A box of particles that push and pull one another, carried forward by steps.
 *
 * <p>The words in capitals in the comments (SIDE, CUT, PAIR, STEP and their like) are the terms of
 * the document. The order of each reckoning is the document's: doubles do not bear another one.
 */
public final class ParticleBox {
    private static final int MOST_ATOMS = 10;
    private static final int MOST_BONDS = 8;
    private static final int MOST_RODS = 4;
    private static final int SORTS = 3;
    private static final int BINS = 16;
    private static final int MOST_STEPS = 50;
    private static final int LONGEST_STEP = 128;
    private static final int MOST_ROUNDS = 40;
    private static final int ROOT_TURNS = 40;

    /** How a STEP ends. */
    private static final int DONE = 0;
    private static final int OVERLAP = 1;
    private static final int STIFF = 2;
    private static final int BLOWN = 3;
    private static final int ENDS = 4;

    /** What a round does to one ROD; STIFF is the third answer. */
    private static final int LEFT_ALONE = 0;
    private static final int CHANGED = 1;

    private final Square square;
    private final Atoms atoms;
    private final Sorts sorts;
    private final Links bonds;
    private final Links rods;
    private final Pulls pulls;
    private final Neighbours neighbours;
    private final Mover mover;
    private final Samples samples;
    private final int[] ends;
    private double thermostatHeat;

    public ParticleBox(int side) {
        square = new Square(Math.max(8, Math.min(64, side)) * 0.5);
        atoms = new Atoms();
        sorts = new Sorts();
        bonds = new Links(MOST_BONDS);
        rods = new Links(MOST_RODS);
        pulls = new Pulls(square, atoms, sorts, bonds);
        neighbours = new Neighbours(square, atoms);
        mover = new Mover(square, atoms, rods, pulls, neighbours);
        samples = new Samples();
        ends = new int[ENDS];
        thermostatHeat = -1.0;
    }

    public int atom(double x, double y, double mass, int sort)
            throws IllegalArgumentException, IllegalStateException {
        require(isPlace(x) && isPlace(y) && within(mass, 0.125, 64.0) && isSort(sort));
        if (atoms.size >= MOST_ATOMS) {
            throw new IllegalStateException("no room for another atom");
        }
        int i = atoms.add(square.wrapped(x), square.wrapped(y), mass, sort);
        neighbours.forget();
        return i;
    }

    public void place(int i, double x, double y) throws IllegalArgumentException {
        require(atoms.has(i) && isPlace(x) && isPlace(y));
        atoms.x[i] = square.wrapped(x);
        atoms.y[i] = square.wrapped(y);
        neighbours.forget();
    }

    public void speed(int i, double u, double v) throws IllegalArgumentException {
        require(atoms.has(i) && within(u, -1000.0, 1000.0) && within(v, -1000.0, 1000.0));
        atoms.u[i] = u;
        atoms.v[i] = v;
    }

    public void sort(int sort, double width, double depth, double charge)
            throws IllegalArgumentException {
        require(isSort(sort) && within(width, 0.125, 4.0) && within(depth, 0.0, 64.0)
                && within(charge, -8.0, 8.0));
        sorts.width[sort] = width;
        sorts.depth[sort] = depth;
        sorts.charge[sort] = charge;
    }

    public void cut(double cut, double skin) throws IllegalArgumentException {
        require(within(cut, 0.5, square.side * 0.5) && within(skin, 0.0, 4.0));
        pulls.cut = cut;
        neighbours.skin = skin;
        neighbours.forget();
    }

    public int bond(int i, int j, double strength, double length)
            throws IllegalArgumentException, IllegalStateException {
        require(areTwoAtoms(i, j) && within(strength, 0.0, 64.0) && isLength(length));
        if (bonds.isFull()) {
            throw new IllegalStateException("no room for another bond");
        }
        return bonds.add(i, j, strength, length);
    }

    public int rod(int i, int j, double length)
            throws IllegalArgumentException, IllegalStateException {
        require(areTwoAtoms(i, j) && isLength(length));
        if (rods.isFull()) {
            throw new IllegalStateException("no room for another rod");
        }
        return rods.add(i, j, 0.0, length);
    }

    public void stuck(int i, boolean on) throws IllegalArgumentException {
        require(atoms.has(i));
        atoms.stuck[i] = on;
        if (on) {
            atoms.u[i] = 0.0;
            atoms.v[i] = 0.0;
        }
    }

    public void thermostat(double temperature) throws IllegalArgumentException {
        // Written so that a NaN is bad as well.
        require(temperature <= 1000.0);
        thermostatHeat = temperature;
    }

    public void step(int n, int d)
            throws IllegalArgumentException, IllegalStateException, ArithmeticException {
        require(n >= 1 && n <= MOST_STEPS && d >= 1 && d <= LONGEST_STEP);
        if (atoms.size == 0) {
            throw new IllegalStateException("there are no atoms");
        }
        for (int k = 0; k < n; k++) {
            int end = mover.carry(d / 1024.0, thermostatHeat);
            ends[end]++;
            if (end != DONE) {
                mover.goBack();
                throw new ArithmeticException("overlap, stiff or blown");
            }
        }
    }

    public double scale(double temperature) throws IllegalArgumentException {
        require(within(temperature, 0.0, 1000.0));
        return atoms.bringTo(temperature);
    }

    public double energy(int kind) throws IllegalArgumentException, ArithmeticException {
        require(kind >= 0 && kind <= 2);
        if (kind == 2) {
            return atoms.energyOfMotion();
        }
        refuseOverlap();
        return kind == 0 ? pulls.energyOfPairs() : pulls.energyOfBonds();
    }

    public double force(int i, int axis) throws IllegalArgumentException, ArithmeticException {
        require(atoms.has(i) && (axis == 0 || axis == 1));
        refuseOverlap();
        pulls.reckonForces();
        return axis == 0 ? pulls.forceX[i] : pulls.forceY[i];
    }

    public double told(int i, int what) throws IllegalArgumentException {
        require(atoms.has(i) && what >= 0 && what <= 4);
        switch (what) {
            case 0:
                return atoms.x[i];
            case 1:
                return atoms.y[i];
            case 2:
                return atoms.u[i];
            case 3:
                return atoms.v[i];
            default:
                return atoms.mass[i];
        }
    }

    public double temperature() {
        return atoms.heat();
    }

    public int sample() {
        return samples.take(square, atoms, pulls);
    }

    public int bin(int a, int b, int bin) throws IllegalArgumentException {
        require(isSort(a) && isSort(b) && bin >= 0 && bin < BINS);
        return samples.bins[Samples.slot(a, b, bin)];
    }

    public int count(int what) {
        switch (what) {
            case 0:
                return atoms.size;
            case 1:
                return bonds.size;
            case 2:
                return rods.size;
            case 3:
                return ends[DONE];
            case 4:
                return neighbours.timesMade;
            case 5:
                return mover.roundsDone;
            case 6:
                return samples.taken;
            case 7:
                return ends[OVERLAP];
            case 8:
                return ends[STIFF];
            case 9:
                return ends[BLOWN];
            default:
                return -1;
        }
    }

    private static void require(boolean good) {
        if (!good) {
            throw new IllegalArgumentException("a number is out of range or an atom is not there");
        }
    }

    private void refuseOverlap() {
        if (pulls.isOverlap()) {
            throw new ArithmeticException("two atoms overlap");
        }
    }

    /** False for a NaN as well. */
    private static boolean within(double z, double least, double most) {
        return z >= least && z <= most;
    }

    private static boolean isPlace(double z) {
        return within(z, -1000.0, 1000.0);
    }

    private static boolean isSort(int sort) {
        return sort >= 0 && sort < SORTS;
    }

    private boolean isLength(double length) {
        return within(length, 0.125, square.side * 0.5);
    }

    private boolean areTwoAtoms(int i, int j) {
        return atoms.has(i) && atoms.has(j) && i != j;
    }

    /**
     * The greatest whole number not above z. Every z here stays far below what a long holds: even
     * 40 rounds of 4 RODS carry no atom further than some 1e14.
     */
    private static double floor(double z) {
        double whole = (double) (long) z;
        return whole > z ? whole - 1.0 : whole;
    }

    private static double root(double z) {
        if (z == 0.0) {
            return 0.0;
        }
        double r = (z + 1.0) * 0.5;
        for (int k = 0; k < ROOT_TURNS; k++) {
            r = (r + z / r) * 0.5;
        }
        return r;
    }

    /** THE BOX. It keeps the way measured last in a, b and r2, so that no measure makes an object. */
    private static final class Square {
        final double side;
        double a;
        double b;
        double r2;

        Square(double side) {
            this.side = side;
        }

        double wrapped(double z) {
            double inside = z - side * floor(z / side);
            return inside < side ? inside : 0.0;
        }

        /** The way FROM (x1, y1) TO (x2, y2). */
        void measure(double x1, double y1, double x2, double y2) {
            double acrossX = x2 - x1;
            double acrossY = y2 - y1;
            // NEAREST is written out, for calls may go only eight deep.
            a = acrossX - side * floor(acrossX / side + 0.5);
            b = acrossY - side * floor(acrossY / side + 0.5);
            r2 = a * a + b * b;
        }
    }

    private static final class Atoms {
        final double[] x = new double[MOST_ATOMS];
        final double[] y = new double[MOST_ATOMS];
        final double[] u = new double[MOST_ATOMS];
        final double[] v = new double[MOST_ATOMS];
        final double[] mass = new double[MOST_ATOMS];
        final int[] sort = new int[MOST_ATOMS];
        final boolean[] stuck = new boolean[MOST_ATOMS];
        int size;

        boolean has(int i) {
            return i >= 0 && i < size;
        }

        /** The caller has looked that there is room. */
        int add(double atX, double atY, double itsMass, int itsSort) {
            int i = size;
            x[i] = atX;
            y[i] = atY;
            mass[i] = itsMass;
            sort[i] = itsSort;
            size++;
            return i;
        }

        /** What the atom gives way to a ROD. */
        double ease(int i) {
            return stuck[i] ? 0.0 : 1.0 / mass[i];
        }

        /** TEMPERATURE. */
        double heat() {
            double sum = 0.0;
            int loose = 0;
            for (int i = 0; i < size; i++) {
                sum = sum + mass[i] * (u[i] * u[i] + v[i] * v[i]);
                if (!stuck[i]) {
                    loose++;
                }
            }
            return loose == 0 ? 0.0 : sum / (2.0 * loose);
        }

        /** Scales the speeds; answers TEMPERATURE before. */
        double bringTo(double wanted) {
            double before = heat();
            if (before < 0.000001) {
                return before;
            }
            double factor = root(wanted / before);
            for (int i = 0; i < size; i++) {
                if (!stuck[i]) {
                    u[i] = u[i] * factor;
                    v[i] = v[i] * factor;
                }
            }
            return before;
        }

        double energyOfMotion() {
            double sum = 0.0;
            for (int i = 0; i < size; i++) {
                sum = sum + 0.5 * mass[i] * (u[i] * u[i] + v[i] * v[i]);
            }
            return sum;
        }

        boolean isBlown() {
            for (int i = 0; i < size; i++) {
                if (isTooFast(u[i]) || isTooFast(v[i])) {
                    return true;
                }
            }
            return false;
        }

        private static boolean isTooFast(double speed) {
            return speed > 1000000.0 || speed < -1000000.0;
        }
    }

    private static final class Sorts {
        final double[] width = new double[SORTS];
        final double[] depth = new double[SORTS];
        final double[] charge = new double[SORTS];

        Sorts() {
            for (int k = 0; k < SORTS; k++) {
                width[k] = 1.0;
                depth[k] = 1.0;
            }
        }
    }

    /** BONDS or RODS: a ROD has no strength. */
    private static final class Links {
        final int[] first;
        final int[] second;
        final double[] strength;
        final double[] length;
        int size;

        Links(int most) {
            first = new int[most];
            second = new int[most];
            strength = new double[most];
            length = new double[most];
        }

        boolean isFull() {
            return size >= first.length;
        }

        /** The caller has looked that there is room. Answers how many there are. */
        int add(int i, int j, double itsStrength, double itsLength) {
            first[size] = i;
            second[size] = j;
            strength[size] = itsStrength;
            length[size] = itsLength;
            size++;
            return size;
        }
    }

    /** THE FORCES and the ENERGIES of PAIRS and BONDS; all but isOverlap need that there is none. */
    private static final class Pulls {
        private final Square square;
        private final Atoms atoms;
        private final Sorts sorts;
        private final Links bonds;
        final double[] forceX = new double[MOST_ATOMS];
        final double[] forceY = new double[MOST_ATOMS];
        double cut;

        Pulls(Square square, Atoms atoms, Sorts sorts, Links bonds) {
            this.square = square;
            this.atoms = atoms;
            this.sorts = sorts;
            this.bonds = bonds;
            cut = square.side * 0.25;
        }

        boolean isOverlap() {
            for (int i = 0; i < atoms.size; i++) {
                for (int j = i + 1; j < atoms.size; j++) {
                    measure(i, j);
                    if (square.r2 < 0.0009765625) {
                        return true;
                    }
                }
            }
            return false;
        }

        void reckonForces() {
            for (int i = 0; i < atoms.size; i++) {
                forceX[i] = 0.0;
                forceY[i] = 0.0;
                addPairs(i);
                addBonds(i);
            }
        }

        double energyOfPairs() {
            double sum = 0.0;
            for (int i = 0; i < atoms.size; i++) {
                for (int j = i + 1; j < atoms.size; j++) {
                    measure(i, j);
                    if (isPair()) {
                        sum = sum + energyOfPair(i, j);
                    }
                }
            }
            return sum;
        }

        double energyOfBonds() {
            double sum = 0.0;
            for (int k = 0; k < bonds.size; k++) {
                measure(bonds.first[k], bonds.second[k]);
                double over = square.r2 - bonds.length[k] * bonds.length[k];
                sum = sum + 0.25 * bonds.strength[k] * over * over;
            }
            return sum;
        }

        /** Leaves the way FROM i TO j in the square. */
        void measure(int i, int j) {
            square.measure(atoms.x[i], atoms.y[i], atoms.x[j], atoms.y[j]);
        }

        /** Whether the two atoms measured last are a PAIR. */
        boolean isPair() {
            return square.r2 < cut * cut;
        }

        private void addPairs(int i) {
            for (int j = 0; j < atoms.size; j++) {
                measure(i, j);
                if (j != i && isPair()) {
                    addPull(i, pullOfPair(i, j));
                }
            }
        }

        private void addBonds(int i) {
            for (int k = 0; k < bonds.size; k++) {
                if (bonds.first[k] == i || bonds.second[k] == i) {
                    measure(i, bonds.first[k] == i ? bonds.second[k] : bonds.first[k]);
                    addPull(i, pullOfBond(k));
                }
            }
        }

        private void addPull(int i, double f) {
            forceX[i] = forceX[i] + f * square.a;
            forceY[i] = forceY[i] + f * square.b;
        }

        private double pullOfPair(int i, int j) {
            double r2 = square.r2;
            double e = meanDepth(i, j);
            double p = nearness(i, j);
            double c = charges(i, j);
            return 24.0 * e * (p - 2.0 * p * p) / r2 - 2.0 * c / (r2 * r2);
        }

        private double energyOfPair(int i, int j) {
            double e = meanDepth(i, j);
            double p = nearness(i, j);
            double c = charges(i, j);
            return 4.0 * e * (p * p - p) + c * (1.0 / square.r2 - 1.0 / (cut * cut));
        }

        private double pullOfBond(int k) {
            return bonds.strength[k] * (square.r2 - bonds.length[k] * bonds.length[k]);
        }

        private double meanDepth(int i, int j) {
            return (sorts.depth[atoms.sort[i]] + sorts.depth[atoms.sort[j]]) * 0.5;
        }

        /** The document's p, by the way measured last. */
        private double nearness(int i, int j) {
            double s = (sorts.width[atoms.sort[i]] + sorts.width[atoms.sort[j]]) * 0.5;
            double q = s * s / square.r2;
            return q * q * q;
        }

        private double charges(int i, int j) {
            return sorts.charge[atoms.sort[i]] * sorts.charge[atoms.sort[j]];
        }
    }

    /**
     * THE LIST. Of what it holds nothing can be seen from outside, only how often it is made: so it
     * keeps no more than where the atoms were then.
     */
    private static final class Neighbours {
        private final Square square;
        private final Atoms atoms;
        private final double[] madeX = new double[MOST_ATOMS];
        private final double[] madeY = new double[MOST_ATOMS];
        private boolean isThere;
        double skin = 0.5;
        int timesMade;

        Neighbours(Square square, Atoms atoms) {
            this.square = square;
            this.atoms = atoms;
        }

        void forget() {
            isThere = false;
        }

        void makeIfNeeded() {
            if (isThere && !hasMovedFar()) {
                return;
            }
            System.arraycopy(atoms.x, 0, madeX, 0, atoms.size);
            System.arraycopy(atoms.y, 0, madeY, 0, atoms.size);
            isThere = true;
            timesMade++;
        }

        private boolean hasMovedFar() {
            for (int i = 0; i < atoms.size; i++) {
                square.measure(madeX[i], madeY[i], atoms.x[i], atoms.y[i]);
                if (square.r2 > (skin * 0.5) * (skin * 0.5)) {
                    return true;
                }
            }
            return false;
        }
    }

    /** Carries the atoms through one STEP. */
    private static final class Mover {
        private final Square square;
        private final Atoms atoms;
        private final Links rods;
        private final Pulls pulls;
        private final Neighbours neighbours;
        private final double[] oldX = new double[MOST_ATOMS];
        private final double[] oldY = new double[MOST_ATOMS];
        private final double[] oldU = new double[MOST_ATOMS];
        private final double[] oldV = new double[MOST_ATOMS];
        int roundsDone;

        Mover(Square square, Atoms atoms, Links rods, Pulls pulls, Neighbours neighbours) {
            this.square = square;
            this.atoms = atoms;
            this.rods = rods;
            this.pulls = pulls;
            this.neighbours = neighbours;
        }

        /**
         * Answers how the STEP ended; if not DONE, goBack must follow. A heat below 0.0 is a
         * THERMOSTAT that is off.
         */
        int carry(double dt, double heat) {
            keepOld();
            neighbours.makeIfNeeded();
            if (pulls.isOverlap()) {
                return OVERLAP;
            }
            pulls.reckonForces();
            push(dt);
            if (atoms.isBlown()) {
                return BLOWN;
            }
            drift(dt);
            int rounds = settleRods();
            if (rounds >= MOST_ROUNDS) {
                return STIFF;
            }
            takeSpeedsFromWays(dt);
            if (atoms.isBlown()) {
                return BLOWN;
            }
            wrapPlaces();
            neighbours.makeIfNeeded();
            if (pulls.isOverlap()) {
                return OVERLAP;
            }
            pulls.reckonForces();
            push(dt);
            if (atoms.isBlown()) {
                return BLOWN;
            }
            if (heat >= 0.0) {
                atoms.bringTo(heat);
            }
            roundsDone += rounds;
            return DONE;
        }

        void goBack() {
            System.arraycopy(oldX, 0, atoms.x, 0, atoms.size);
            System.arraycopy(oldY, 0, atoms.y, 0, atoms.size);
            System.arraycopy(oldU, 0, atoms.u, 0, atoms.size);
            System.arraycopy(oldV, 0, atoms.v, 0, atoms.size);
            neighbours.forget();
        }

        private void keepOld() {
            System.arraycopy(atoms.x, 0, oldX, 0, atoms.size);
            System.arraycopy(atoms.y, 0, oldY, 0, atoms.size);
            System.arraycopy(atoms.u, 0, oldU, 0, atoms.size);
            System.arraycopy(atoms.v, 0, oldV, 0, atoms.size);
        }

        private void push(double dt) {
            for (int i = 0; i < atoms.size; i++) {
                if (!atoms.stuck[i]) {
                    atoms.u[i] = atoms.u[i] + 0.5 * dt * (pulls.forceX[i] / atoms.mass[i]);
                    atoms.v[i] = atoms.v[i] + 0.5 * dt * (pulls.forceY[i] / atoms.mass[i]);
                }
            }
        }

        /** From here to wrapPlaces the places are the document's x' and y'. */
        private void drift(double dt) {
            for (int i = 0; i < atoms.size; i++) {
                if (!atoms.stuck[i]) {
                    atoms.x[i] = atoms.x[i] + dt * atoms.u[i];
                    atoms.y[i] = atoms.y[i] + dt * atoms.v[i];
                }
            }
        }

        /** Answers how many rounds changed something, MOST_ROUNDS if STIFF. */
        private int settleRods() {
            for (int rounds = 0; rounds < MOST_ROUNDS; rounds++) {
                boolean changed = false;
                for (int k = 0; k < rods.size; k++) {
                    int end = settleRod(k);
                    if (end == STIFF) {
                        return MOST_ROUNDS;
                    }
                    changed = changed || end == CHANGED;
                }
                if (!changed) {
                    return rounds;
                }
            }
            return MOST_ROUNDS;
        }

        private int settleRod(int k) {
            int i = rods.first[k];
            int j = rods.second[k];
            double l = rods.length[k];
            square.measure(oldX[i], oldY[i], oldX[j], oldY[j]);
            double oa = square.a;
            double ob = square.b;
            square.measure(atoms.x[i], atoms.y[i], atoms.x[j], atoms.y[j]);
            double over = square.r2 - l * l;
            if ((over < 0.0 ? -over : over) <= 0.000001 * l * l) {
                return LEFT_ALONE;
            }
            double m = atoms.ease(i);
            double n = atoms.ease(j);
            double w = square.a * oa + square.b * ob;
            double h = 2.0 * w * (m + n);
            if (h > -0.000001 && h < 0.000001) {
                return STIFF;
            }
            double g = over / h;
            atoms.x[i] = atoms.x[i] + g * m * oa;
            atoms.y[i] = atoms.y[i] + g * m * ob;
            atoms.x[j] = atoms.x[j] - g * n * oa;
            atoms.y[j] = atoms.y[j] - g * n * ob;
            return CHANGED;
        }

        private void takeSpeedsFromWays(double dt) {
            if (rods.size == 0) {
                return;
            }
            for (int i = 0; i < atoms.size; i++) {
                if (!atoms.stuck[i]) {
                    atoms.u[i] = (atoms.x[i] - oldX[i]) / dt;
                    atoms.v[i] = (atoms.y[i] - oldY[i]) / dt;
                }
            }
        }

        private void wrapPlaces() {
            for (int i = 0; i < atoms.size; i++) {
                atoms.x[i] = square.wrapped(atoms.x[i]);
                atoms.y[i] = square.wrapped(atoms.y[i]);
            }
        }
    }

    private static final class Samples {
        final int[] bins = new int[SORTS * SORTS * BINS];
        int taken;

        /** The same for (one, other) and (other, one). */
        static int slot(int one, int other, int bin) {
            return (Math.min(one, other) * SORTS + Math.max(one, other)) * BINS + bin;
        }

        /** Answers how many PAIRS there were. */
        int take(Square square, Atoms atoms, Pulls pulls) {
            int pairs = 0;
            for (int i = 0; i < atoms.size; i++) {
                for (int j = i + 1; j < atoms.size; j++) {
                    pulls.measure(i, j);
                    if (pulls.isPair()) {
                        double place = floor(square.r2 / (pulls.cut * pulls.cut / 16.0));
                        int bin = place < BINS ? (int) place : BINS - 1;
                        bins[slot(atoms.sort[i], atoms.sort[j], bin)]++;
                        pairs++;
                    }
                }
            }
            taken++;
            return pairs;
        }
    }
}
