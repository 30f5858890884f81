import java.math.BigInteger;
import java.util.ArrayList;
import java.util.Collections;
import java.util.Comparator;
import java.util.List;
import java.util.Map;
import java.util.TreeMap;
import java.util.TreeSet;

/**
 * The hull in another way than the class finds it: corners by their definition (in no line, triangle or tetrahedron of
 * others), faces from the corners, their order by angles, sizes by a fan of tetrahedra from a corner.
 */
final class Oracle {
    final int[][] at;
    final List<Integer> corners = new ArrayList<>();
    /** Each face: its normal's x, y, z, its offset, then its corners in their order. */
    final List<long[]> faces = new ArrayList<>();
    /** Each edge: a, b, left, right. */
    final List<int[]> edges = new ArrayList<>();
    int[][] distance;
    long sixVolumes;
    final BigInteger[] moments = {BigInteger.ZERO, BigInteger.ZERO, BigInteger.ZERO};

    Oracle(int[][] cloud) {
        at = cloud;
        for (int p = 0; p < at.length; p++) {
            if (!isCovered(at[p], p)) {
                corners.add(p);
            }
        }
        if (!isFlat()) {
            findFaces();
            findEdges();
            findDistances();
            findSizes();
        }
    }

    boolean isFlat() {
        for (int a : corners) {
            for (int b : corners) {
                for (int c : corners) {
                    for (int d : corners) {
                        if (six(at[a], at[b], at[c], at[d]) != 0) {
                            return false;
                        }
                    }
                }
            }
        }
        return true;
    }

    int side(int[] q) {
        if (!isCovered(q, -1)) {
            return -1;
        }
        for (long[] f : faces) {
            if (f[0] * q[0] + f[1] * q[1] + f[2] * q[2] == f[3]) {
                return 0;
            }
        }
        return 1;
    }

    int support(long x, long y, long z) {
        Comparator<Integer> reach = Comparator.comparing(p -> x * at[p][0] + y * at[p][1] + z * at[p][2]);
        return Collections.max(corners, reach.thenComparing(Comparator.reverseOrder()));
    }

    /** Whether q is at, between, or among other points than the one left out. */
    private boolean isCovered(int[] q, int leftOut) {
        int n = at.length;
        for (int a = 0; a < n; a++) {
            for (int b = a + 1; b < n; b++) {
                if (a == leftOut || b == leftOut) {
                    continue;
                }
                if (inSegment(q, at[a], at[b])) {
                    return true;
                }
                for (int c = b + 1; c < n; c++) {
                    if (c == leftOut) {
                        continue;
                    }
                    if (inTriangle(q, at[a], at[b], at[c])) {
                        return true;
                    }
                    for (int d = c + 1; d < n; d++) {
                        if (d != leftOut && inTetrahedron(q, at[a], at[b], at[c], at[d])) {
                            return true;
                        }
                    }
                }
            }
        }
        return false;
    }

    private static boolean inSegment(int[] q, int[] a, int[] b) {
        return isZero(cross(a, b, q)) && dot(minus(a, q), minus(b, q)) <= 0;
    }

    private static boolean inTriangle(int[] q, int[] a, int[] b, int[] c) {
        long[] n = cross(a, b, c);
        return !isZero(n) && six(a, b, c, q) == 0 && dot(n, cross(a, b, q)) >= 0 && dot(n, cross(b, c, q)) >= 0
            && dot(n, cross(c, a, q)) >= 0;
    }

    private static boolean inTetrahedron(int[] q, int[] a, int[] b, int[] c, int[] d) {
        int whole = Long.signum(six(a, b, c, d));
        return whole != 0 && Long.signum(six(q, b, c, d)) * whole >= 0 && Long.signum(six(a, q, c, d)) * whole >= 0
            && Long.signum(six(a, b, q, d)) * whole >= 0 && Long.signum(six(a, b, c, q)) * whole >= 0;
    }

    private void findFaces() {
        Map<String, long[]> planes = new TreeMap<>();
        for (int a : corners) {
            for (int b : corners) {
                for (int c : corners) {
                    if (isOutside(a, b, c)) {
                        long[] n = cross(at[a], at[b], at[c]);
                        long g = BigInteger.valueOf(n[0]).gcd(BigInteger.valueOf(n[1])).gcd(BigInteger.valueOf(n[2]))
                            .longValueExact();
                        long[] plane = {n[0] / g, n[1] / g, n[2] / g, 0};
                        plane[3] = plane[0] * at[a][0] + plane[1] * at[a][1] + plane[2] * at[a][2];
                        planes.put(java.util.Arrays.toString(plane), plane);
                    }
                }
            }
        }
        for (long[] plane : planes.values()) {
            faces.add(ringed(plane));
        }
        faces.sort(Comparator.<long[]>comparingLong(f -> f[4]).thenComparingLong(f -> f[5]));
    }

    /** Whether no point lies above the plane through three corners, seen counterclockwise from above. */
    private boolean isOutside(int a, int b, int c) {
        if (isZero(cross(at[a], at[b], at[c]))) {
            return false;
        }
        for (int[] p : at) {
            if (six(at[a], at[b], at[c], p) > 0) {
                return false;
            }
        }
        return true;
    }

    private long[] ringed(long[] plane) {
        List<Integer> own = new ArrayList<>();
        double[] mean = new double[3];
        for (int p : corners) {
            if (plane[0] * at[p][0] + plane[1] * at[p][1] + plane[2] * at[p][2] == plane[3]) {
                own.add(p);
            }
        }
        for (int p : own) {
            for (int i = 0; i < 3; i++) {
                mean[i] += (double) at[p][i] / own.size();
            }
        }
        int first = own.get(0);
        own.sort(Comparator.comparingDouble(p -> p == first ? 0 : angle(plane, mean, at[first], at[p])));
        long[] told = java.util.Arrays.copyOf(plane, 4 + own.size());
        for (int k = 0; k < own.size(); k++) {
            told[4 + k] = own.get(k);
        }
        return told;
    }

    /** From 0 to a whole turn, counterclockwise seen from the normal's tip. */
    private static double angle(long[] n, double[] mean, int[] from, int[] to) {
        double[] u = {from[0] - mean[0], from[1] - mean[1], from[2] - mean[2]};
        double[] v = {to[0] - mean[0], to[1] - mean[1], to[2] - mean[2]};
        double length = Math.sqrt((double) n[0] * n[0] + (double) n[1] * n[1] + (double) n[2] * n[2]);
        double sine = (n[0] * (u[1] * v[2] - u[2] * v[1]) + n[1] * (u[2] * v[0] - u[0] * v[2])
            + n[2] * (u[0] * v[1] - u[1] * v[0])) / length;
        double turn = Math.atan2(sine, u[0] * v[0] + u[1] * v[1] + u[2] * v[2]);
        return turn < 0 ? turn + 2 * Math.PI : turn;
    }

    private void findEdges() {
        Map<Integer, Integer> along = new TreeMap<>();
        TreeSet<Integer> pairs = new TreeSet<>();
        for (int f = 0; f < faces.size(); f++) {
            long[] told = faces.get(f);
            for (int k = 4; k < told.length; k++) {
                int a = (int) told[k];
                int b = (int) told[k + 1 < told.length ? k + 1 : 4];
                Check.due("oracle: faces along a way before this one", along.put(a * 100 + b, f) == null, true);
                pairs.add(Math.min(a, b) * 100 + Math.max(a, b));
            }
        }
        for (int pair : pairs) {
            int a = pair / 100;
            int b = pair % 100;
            edges.add(new int[] {a, b, along.get(a * 100 + b), along.get(b * 100 + a)});
        }
        Check.due("oracle: Euler", corners.size() - edges.size() + faces.size(), 2);
    }

    private void findDistances() {
        int n = at.length;
        distance = new int[n][n];
        for (int[] row : distance) {
            java.util.Arrays.fill(row, 1000);
        }
        for (int p : corners) {
            distance[p][p] = 0;
        }
        for (int[] e : edges) {
            distance[e[0]][e[1]] = 1;
            distance[e[1]][e[0]] = 1;
        }
        for (int k = 0; k < n; k++) {
            for (int i = 0; i < n; i++) {
                for (int j = 0; j < n; j++) {
                    distance[i][j] = Math.min(distance[i][j], distance[i][k] + distance[k][j]);
                }
            }
        }
    }

    private void findSizes() {
        int[] top = at[corners.get(corners.size() - 1)];
        for (long[] f : faces) {
            for (int k = 5; k + 1 < f.length; k++) {
                int[] a = at[(int) f[4]];
                int[] b = at[(int) f[k]];
                int[] c = at[(int) f[k + 1]];
                long six = Math.abs(six(a, b, c, top));
                sixVolumes += six;
                for (int i = 0; i < 3; i++) {
                    BigInteger sum = BigInteger.valueOf(a[i] + b[i] + c[i] + top[i]);
                    moments[i] = moments[i].add(sum.multiply(BigInteger.valueOf(six)));
                }
            }
        }
    }

    private static long six(int[] a, int[] b, int[] c, int[] d) {
        return dot(cross(a, b, c), minus(d, a));
    }

    private static long[] cross(int[] a, int[] b, int[] c) {
        long[] u = minus(b, a);
        long[] v = minus(c, a);
        return new long[] {u[1] * v[2] - u[2] * v[1], u[2] * v[0] - u[0] * v[2], u[0] * v[1] - u[1] * v[0]};
    }

    private static long[] minus(int[] a, int[] b) {
        return new long[] {a[0] - b[0], a[1] - b[1], a[2] - b[2]};
    }

    private static long dot(long[] a, long[] b) {
        return a[0] * b[0] + a[1] * b[1] + a[2] * b[2];
    }

    private static boolean isZero(long[] v) {
        return v[0] == 0 && v[1] == 0 && v[2] == 0;
    }
}
