import java.util.ArrayList;
import java.util.List;

/**
 * The document once more, told in other code than the program's and with no thought for space: the
 * program's answers are held against it in LongRunsTest.
 */
final class PlainBox {
    static final class Trouble extends Exception {
        private static final long serialVersionUID = 1L;
        final int counter;

        Trouble(int counter) {
            this.counter = counter;
        }
    }

    record Way(double a, double b, double r2) {
    }

    record Link(int i, int j, double k, double l) {
    }

    record Atom(double x, double y, double u, double v, double mass, int sort, boolean stuck) {
        Atom at(double nx, double ny) {
            return new Atom(nx, ny, u, v, mass, sort, stuck);
        }

        Atom going(double nu, double nv) {
            return new Atom(x, y, nu, nv, mass, sort, stuck);
        }

        Atom held(boolean on) {
            return new Atom(x, y, on ? 0.0 : u, on ? 0.0 : v, mass, sort, on);
        }
    }

    final double side;
    double cut;
    double skin = 0.5;
    double heat;
    boolean heated;
    List<Atom> atoms = new ArrayList<>();
    final List<Link> bonds = new ArrayList<>();
    final List<Link> rods = new ArrayList<>();
    final double[][] sorts = {{1.0, 1.0, 0.0}, {1.0, 1.0, 0.0}, {1.0, 1.0, 0.0}};
    final int[][][] bins = new int[3][3][16];
    final int[] counts = new int[10];
    private List<Atom> listed;

    PlainBox(int side) {
        this.side = (side < 8 ? 8 : side > 64 ? 64 : side) * 0.5;
        cut = this.side * 0.25;
    }

    int atom(double x, double y, double mass, int sort) {
        good(in(x, -1000, 1000) && in(y, -1000, 1000) && in(mass, 0.125, 64) && in(sort, 0, 2));
        room(atoms.size() < 10);
        atoms.add(new Atom(wrapped(x), wrapped(y), 0.0, 0.0, mass, sort, false));
        listed = null;
        return atoms.size() - 1;
    }

    void place(int i, double x, double y) {
        good(in(i, 0, atoms.size() - 1) && in(x, -1000, 1000) && in(y, -1000, 1000));
        atoms.set(i, atoms.get(i).at(wrapped(x), wrapped(y)));
        listed = null;
    }

    void speed(int i, double u, double v) {
        good(in(i, 0, atoms.size() - 1) && in(u, -1000, 1000) && in(v, -1000, 1000));
        atoms.set(i, atoms.get(i).going(u, v));
    }

    void sort(int sort, double width, double depth, double charge) {
        good(in(sort, 0, 2) && in(width, 0.125, 4) && in(depth, 0, 64) && in(charge, -8, 8));
        sorts[sort] = new double[] {width, depth, charge};
    }

    void cut(double newCut, double newSkin) {
        good(in(newCut, 0.5, side * 0.5) && in(newSkin, 0, 4));
        cut = newCut;
        skin = newSkin;
        listed = null;
    }

    int bond(int i, int j, double strength, double length) {
        good(two(i, j) && in(strength, 0, 64) && in(length, 0.125, side * 0.5));
        room(bonds.size() < 8);
        bonds.add(new Link(i, j, strength, length));
        return bonds.size();
    }

    int rod(int i, int j, double length) {
        good(two(i, j) && in(length, 0.125, side * 0.5));
        room(rods.size() < 4);
        rods.add(new Link(i, j, 0.0, length));
        return rods.size();
    }

    void stuck(int i, boolean on) {
        good(in(i, 0, atoms.size() - 1));
        atoms.set(i, atoms.get(i).held(on));
    }

    void thermostat(double temperature) {
        good(temperature <= 1000.0);
        heated = !(temperature < 0.0);
        heat = temperature;
    }

    void step(int n, int d) {
        good(in(n, 1, 50) && in(d, 1, 128));
        room(!atoms.isEmpty());
        for (int k = 0; k < n; k++) {
            List<Atom> before = List.copyOf(atoms);
            try {
                int rounds = oneStep(before, d / 1024.0);
                counts[3]++;
                counts[5] += rounds;
            } catch (Trouble trouble) {
                atoms = new ArrayList<>(before);
                listed = null;
                counts[trouble.counter]++;
                throw new ArithmeticException();
            }
        }
    }

    double scale(double temperature) {
        good(in(temperature, 0, 1000));
        double old = temperature();
        if (old < 0.000001) {
            return old;
        }
        double root = root(temperature / old);
        for (int i = 0; i < atoms.size(); i++) {
            Atom it = atoms.get(i);
            if (!it.stuck) {
                atoms.set(i, it.going(it.u * root, it.v * root));
            }
        }
        return old;
    }

    double energy(int kind) {
        good(in(kind, 0, 2));
        double sum = 0.0;
        if (kind == 2) {
            for (Atom it : atoms) {
                sum += 0.5 * it.mass * (it.u * it.u + it.v * it.v);
            }
            return sum;
        }
        apart();
        if (kind == 1) {
            for (Link bond : bonds) {
                double z = way(bond.i, bond.j).r2 - bond.l * bond.l;
                sum += 0.25 * bond.k * z * z;
            }
            return sum;
        }
        for (int i = 0; i < atoms.size(); i++) {
            for (int j = i + 1; j < atoms.size(); j++) {
                double r2 = way(i, j).r2;
                if (r2 < cut * cut) {
                    double[] mix = mix(i, j, r2);
                    double p = mix[1];
                    sum += 4.0 * mix[0] * (p * p - p) + mix[2] * (1.0 / r2 - 1.0 / (cut * cut));
                }
            }
        }
        return sum;
    }

    double force(int i, int axis) {
        good(in(i, 0, atoms.size() - 1) && in(axis, 0, 1));
        apart();
        return forces()[i][axis];
    }

    double told(int i, int what) {
        good(in(i, 0, atoms.size() - 1) && in(what, 0, 4));
        Atom it = atoms.get(i);
        return new double[] {it.x, it.y, it.u, it.v, it.mass}[what];
    }

    double temperature() {
        double sum = 0.0;
        double free = 0.0;
        for (Atom it : atoms) {
            sum += it.mass * (it.u * it.u + it.v * it.v);
            free += it.stuck ? 0.0 : 1.0;
        }
        return free == 0.0 ? 0.0 : sum / (2.0 * free);
    }

    int sample() {
        int pairs = 0;
        for (int j = 1; j < atoms.size(); j++) {
            for (int i = 0; i < j; i++) {
                double r2 = way(i, j).r2;
                if (r2 < cut * cut) {
                    int bin = (int) Math.min(15.0, Math.floor(r2 / (cut * cut / 16.0)));
                    int a = atoms.get(i).sort;
                    int b = atoms.get(j).sort;
                    bins[a][b][bin]++;
                    if (a != b) {
                        bins[b][a][bin]++;
                    }
                    pairs++;
                }
            }
        }
        counts[6]++;
        return pairs;
    }

    int bin(int a, int b, int bin) {
        good(in(a, 0, 2) && in(b, 0, 2) && in(bin, 0, 15));
        return bins[a][b][bin];
    }

    int count(int what) {
        counts[0] = atoms.size();
        counts[1] = bonds.size();
        counts[2] = rods.size();
        return in(what, 0, 9) ? counts[what] : -1;
    }

    private int oneStep(List<Atom> before, double dt) throws Trouble {
        double[][] f = freshForces();
        kick(f, dt);
        double[] x = new double[atoms.size()];
        double[] y = new double[atoms.size()];
        for (int i = 0; i < x.length; i++) {
            Atom it = atoms.get(i);
            x[i] = it.stuck ? it.x : it.x + dt * it.u;
            y[i] = it.stuck ? it.y : it.y + dt * it.v;
        }
        int rounds = 0;
        while (roundChanges(before, x, y)) {
            rounds++;
            if (rounds == 40) {
                throw new Trouble(8);
            }
        }
        if (!rods.isEmpty()) {
            for (int i = 0; i < x.length; i++) {
                Atom old = before.get(i);
                if (!old.stuck) {
                    atoms.set(i, atoms.get(i).going((x[i] - old.x) / dt, (y[i] - old.y) / dt));
                }
            }
            slowEnough();
        }
        for (int i = 0; i < x.length; i++) {
            atoms.set(i, atoms.get(i).at(wrapped(x[i]), wrapped(y[i])));
        }
        f = freshForces();
        kick(f, dt);
        if (heated) {
            scale(heat);
        }
        return rounds;
    }

    private boolean roundChanges(List<Atom> before, double[] x, double[] y) throws Trouble {
        boolean any = false;
        for (Link rod : rods) {
            int i = rod.i;
            int j = rod.j;
            Atom one = before.get(i);
            Atom two = before.get(j);
            Way o = way(one.x, one.y, two.x, two.y);
            Way now = way(x[i], y[i], x[j], y[j]);
            double z = now.r2 - rod.l * rod.l;
            if (Math.abs(z) > 0.000001 * rod.l * rod.l) {
                double m = one.stuck ? 0.0 : 1.0 / one.mass;
                double n = two.stuck ? 0.0 : 1.0 / two.mass;
                double h = 2.0 * (now.a * o.a + now.b * o.b) * (m + n);
                if (Math.abs(h) < 0.000001) {
                    throw new Trouble(8);
                }
                double g = z / h;
                x[i] += g * m * o.a;
                y[i] += g * m * o.b;
                x[j] -= g * n * o.a;
                y[j] -= g * n * o.b;
                any = true;
            }
        }
        return any;
    }

    private double[][] freshForces() throws Trouble {
        if (listed == null || strayed()) {
            listed = List.copyOf(atoms);
            counts[4]++;
        }
        if (overlap()) {
            throw new Trouble(7);
        }
        return forces();
    }

    private boolean strayed() {
        for (int i = 0; i < atoms.size(); i++) {
            Atom then = listed.get(i);
            Atom now = atoms.get(i);
            if (way(then.x, then.y, now.x, now.y).r2 > (skin * 0.5) * (skin * 0.5)) {
                return true;
            }
        }
        return false;
    }

    private void kick(double[][] f, double dt) throws Trouble {
        for (int i = 0; i < atoms.size(); i++) {
            Atom it = atoms.get(i);
            if (!it.stuck) {
                double u = it.u + 0.5 * dt * (f[i][0] / it.mass);
                double v = it.v + 0.5 * dt * (f[i][1] / it.mass);
                atoms.set(i, it.going(u, v));
            }
        }
        slowEnough();
    }

    private void slowEnough() throws Trouble {
        for (Atom it : atoms) {
            if (Math.max(Math.abs(it.u), Math.abs(it.v)) > 1000000.0) {
                throw new Trouble(9);
            }
        }
    }

    private double[][] forces() {
        double[][] f = new double[atoms.size()][2];
        for (int i = 0; i < f.length; i++) {
            for (int j = 0; j < f.length; j++) {
                Way w = way(i, j);
                if (i != j && w.r2 < cut * cut) {
                    double[] mix = mix(i, j, w.r2);
                    double e = mix[0];
                    double p = mix[1];
                    double c = mix[2];
                    double z = 24.0 * e * (p - 2.0 * p * p) / w.r2 - 2.0 * c / (w.r2 * w.r2);
                    f[i][0] += z * w.a;
                    f[i][1] += z * w.b;
                }
            }
            for (Link bond : bonds) {
                if (bond.i == i || bond.j == i) {
                    Way w = way(i, bond.i == i ? bond.j : bond.i);
                    f[i][0] += bond.k * (w.r2 - bond.l * bond.l) * w.a;
                    f[i][1] += bond.k * (w.r2 - bond.l * bond.l) * w.b;
                }
            }
        }
        return f;
    }

    /** The document's e, p and c. */
    private double[] mix(int i, int j, double r2) {
        double[] one = sorts[atoms.get(i).sort];
        double[] two = sorts[atoms.get(j).sort];
        double s = (one[0] + two[0]) * 0.5;
        double q = s * s / r2;
        return new double[] {(one[1] + two[1]) * 0.5, q * q * q, one[2] * two[2]};
    }

    private void apart() {
        if (overlap()) {
            throw new ArithmeticException();
        }
    }

    private boolean overlap() {
        for (int i = 0; i < atoms.size(); i++) {
            for (int j = i + 1; j < atoms.size(); j++) {
                if (way(i, j).r2 < 0.0009765625) {
                    return true;
                }
            }
        }
        return false;
    }

    private Way way(int i, int j) {
        Atom one = atoms.get(i);
        Atom two = atoms.get(j);
        return way(one.x, one.y, two.x, two.y);
    }

    private Way way(double x1, double y1, double x2, double y2) {
        double a = x2 - x1;
        a = a - side * Math.floor(a / side + 0.5);
        double b = y2 - y1;
        b = b - side * Math.floor(b / side + 0.5);
        return new Way(a, b, a * a + b * b);
    }

    private double wrapped(double z) {
        double w = z - side * Math.floor(z / side);
        return w >= side ? 0.0 : w;
    }

    private static double root(double z) {
        if (z == 0.0) {
            return 0.0;
        }
        double r = (z + 1.0) * 0.5;
        int turns = 40;
        while (turns-- > 0) {
            r = (r + z / r) * 0.5;
        }
        return r;
    }

    private boolean two(int i, int j) {
        return in(i, 0, atoms.size() - 1) && in(j, 0, atoms.size() - 1) && i != j;
    }

    private static boolean in(double z, double low, double high) {
        return low <= z && z <= high;
    }

    private static void good(boolean ok) {
        if (!ok) {
            throw new IllegalArgumentException();
        }
    }

    private static void room(boolean ok) {
        if (!ok) {
            throw new IllegalStateException();
        }
    }
}
