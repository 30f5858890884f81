import java.util.Arrays;

/** Builds the convex hull of points in space exactly; README.md shows its use. */
public final class HullBuilder {
    public static final int NONE = -1;

    private static final int MOST_POINTS = 24;
    // Euler's formula: a hull with n corners has at most 2n - 4 faces and 3n - 6 edges.
    private static final int MOST_FACES = 2 * MOST_POINTS - 4;
    private static final int MOST_EDGES = 3 * MOST_POINTS - 6;
    private static final int POINT_REACH = 512;
    private static final int QUESTION_REACH = 65536;

    private final Points points;
    private final Hull hull;
    private int hullsBuilt;

    public HullBuilder() {
        points = new Points();
        hull = new Hull();
        hullsBuilt = 0;
    }

    public int point(int x, int y, int z) throws IllegalArgumentException, IllegalStateException {
        requireReach(x, y, z, POINT_REACH);
        if (points.isTaken(x, y, z)) {
            throw new IllegalArgumentException("a point is at that place");
        }
        if (points.size >= MOST_POINTS) {
            throw new IllegalStateException("there are 24 points");
        }
        return points.append(x, y, z);
    }

    public int take(int p) throws IndexOutOfBoundsException {
        requirePlace(p, points.size);
        points.remove(p);
        return points.size;
    }

    public int build() throws IllegalStateException {
        if (hull.wouldBeFlat(points)) {
            throw new IllegalStateException("all points lie in a plane");
        }
        hull.wrap(points);
        hullsBuilt++;
        return hull.faceCount;
    }

    public int of(int p, int what) throws IndexOutOfBoundsException {
        requirePlace(p, points.size);
        requirePlace(what, 3);
        return points.coordinate(p, what);
    }

    public int face(int f, int what) throws IllegalStateException, IndexOutOfBoundsException {
        requireHull();
        requirePlace(f, hull.faceCount);
        requirePlace(what, 4);
        Face asked = hull.faces[f];
        switch (what) {
            case 0:
                return asked.size;
            case 1:
                return (int) asked.nx;
            case 2:
                return (int) asked.ny;
            default:
                return (int) asked.nz;
        }
    }

    public long offset(int f) throws IllegalStateException, IndexOutOfBoundsException {
        requireHull();
        requirePlace(f, hull.faceCount);
        return hull.faces[f].distance;
    }

    public int corner(int f, int k) throws IllegalStateException, IndexOutOfBoundsException {
        requireHull();
        requirePlace(f, hull.faceCount);
        requirePlace(k, hull.faces[f].size);
        return hull.faces[f].ring[k];
    }

    public int edge(int e, int what) throws IllegalStateException, IndexOutOfBoundsException {
        requireHull();
        requirePlace(e, hull.edgeCount);
        requirePlace(what, 4);
        int a = hull.edgeLow[e];
        int b = hull.edgeHigh[e];
        switch (what) {
            case 0:
                return a;
            case 1:
                return b;
            case 2:
                return hull.faceAlong[way(a, b)];
            default:
                return hull.faceAlong[way(b, a)];
        }
    }

    public int support(int x, int y, int z) throws IllegalStateException, IllegalArgumentException {
        requireHull();
        requireReach(x, y, z, QUESTION_REACH);
        return hull.furthest(x, y, z);
    }

    public int steps(int a, int b) throws IllegalStateException, IndexOutOfBoundsException {
        requireHull();
        requireCorner(a);
        requireCorner(b);
        return hull.walk(a, b);
    }

    public int side(int x, int y, int z) throws IllegalStateException, IllegalArgumentException {
        requireHull();
        requireReach(x, y, z, QUESTION_REACH);
        return hull.locate(x, y, z);
    }

    public long volume() throws IllegalStateException {
        requireHull();
        return hull.sixVolumes;
    }

    public long centre(int what) throws IllegalStateException, IndexOutOfBoundsException {
        requireHull();
        requirePlace(what, 3);
        return hull.moments[what];
    }

    public double middle(int what) throws IllegalStateException, IndexOutOfBoundsException {
        requireHull();
        requirePlace(what, 3);
        double divisor = 4.0 * (double) hull.sixVolumes;
        return divisor > 0.0 ? (double) hull.moments[what] / divisor : 0.0;
    }

    public int count(int what) throws IndexOutOfBoundsException {
        switch (what) {
            case 0:
                return points.size;
            case 1:
                return hull.faceCount;
            case 2:
                return hull.edgeCount;
            case 3:
                return Integer.bitCount(hull.corners);
            case 4:
                return hullsBuilt;
            default:
                throw new IndexOutOfBoundsException("nothing is counted there");
        }
    }

    private void requireHull() {
        if (hull.faceCount == 0) {
            throw new IllegalStateException("there is no hull");
        }
    }

    private void requireCorner(int p) {
        requirePlace(p, MOST_POINTS);
        if (!holds(hull.corners, p)) {
            throw new IndexOutOfBoundsException("that is no corner");
        }
    }

    private static void requirePlace(int place, int end) {
        if (place < 0 || place >= end) {
            throw new IndexOutOfBoundsException("there is no such place");
        }
    }

    private static void requireReach(int x, int y, int z, int reach) {
        if (!isWithin(x, reach) || !isWithin(y, reach) || !isWithin(z, reach)) {
            throw new IllegalArgumentException("a coordinate is out of reach");
        }
    }

    // Not by Math.abs, which leaves Integer.MIN_VALUE negative.
    private static boolean isWithin(int value, int reach) {
        return value >= -reach && value <= reach;
    }

    /** Sets of points are bits of an int, as there are at most 24. */
    private static boolean holds(int set, int p) {
        return (set & (1 << p)) != 0;
    }

    /** Where the way from one point to another one stands in Hull.faceAlong. */
    private static int way(int from, int to) {
        return from * MOST_POINTS + to;
    }

    /** One coordinate of the cross product of the ways from a to b and from a to c, by the other two. */
    private static long across(int[] us, int[] vs, int a, int b, int c) {
        return (long) (us[b] - us[a]) * (vs[c] - vs[a]) - (long) (vs[b] - vs[a]) * (us[c] - us[a]);
    }

    private static long commonFactor(long a, long b) {
        // Euclid needs fewer than 64 rounds for any two longs as small as a normal's.
        for (int round = 0; round < 64 && b != 0; round++) {
            long rest = a % b;
            a = b;
            b = rest;
        }
        return a < 0 ? -a : a;
    }

    /** Up to 24 points, numbered without gaps. */
    private static final class Points {
        private final int[] xs;
        private final int[] ys;
        private final int[] zs;
        private int size;

        private Points() {
            xs = new int[MOST_POINTS];
            ys = new int[MOST_POINTS];
            zs = new int[MOST_POINTS];
            size = 0;
        }

        private boolean isTaken(int x, int y, int z) {
            for (int p = 0; p < size; p++) {
                if (xs[p] == x && ys[p] == y && zs[p] == z) {
                    return true;
                }
            }
            return false;
        }

        private int append(int x, int y, int z) {
            if (size >= MOST_POINTS) {
                return NONE;
            }
            xs[size] = x;
            ys[size] = y;
            zs[size] = z;
            size++;
            return size - 1;
        }

        private void remove(int p) {
            if (p < 0 || p >= size) {
                return;
            }
            for (int q = p; q + 1 < size; q++) {
                xs[q] = xs[q + 1];
                ys[q] = ys[q + 1];
                zs[q] = zs[q + 1];
            }
            size--;
        }

        private int coordinate(int p, int axis) {
            if (axis == 0) {
                return xs[p];
            }
            return axis == 1 ? ys[p] : zs[p];
        }

        private void copyFrom(Points other) {
            for (int p = 0; p < other.size; p++) {
                xs[p] = other.xs[p];
                ys[p] = other.ys[p];
                zs[p] = other.zs[p];
            }
            size = other.size;
        }
    }

    /** A plane, and the polygon in it once the hull's corners are known. */
    private static final class Face {
        // Long, so that products with a question's coordinates do not wrap.
        private long nx;
        private long ny;
        private long nz;
        private long distance;
        private int held;
        private final int[] ring;
        private int size;

        private Face() {
            ring = new int[MOST_POINTS];
        }

        /** Lays the plane through three points; false where they are in a line. */
        private boolean layThrough(Points at, int a, int b, int c) {
            nx = across(at.ys, at.zs, a, b, c);
            ny = across(at.zs, at.xs, a, b, c);
            nz = across(at.xs, at.ys, a, b, c);
            distance = nx * at.xs[a] + ny * at.ys[a] + nz * at.zs[a];
            return nx != 0 || ny != 0 || nz != 0;
        }

        /** Positive above the plane, 0 in it, negative below it. */
        private long heightOf(long x, long y, long z) {
            return nx * x + ny * y + nz * z - distance;
        }

        private boolean holdsAll(Points at) {
            for (int p = 0; p < at.size; p++) {
                if (heightOf(at.xs[p], at.ys[p], at.zs[p]) != 0) {
                    return false;
                }
            }
            return true;
        }

        /** Turns the normal outside and notes the plane's points; false where points lie on both sides. */
        private boolean turnOutside(Points at) {
            boolean above = false;
            boolean below = false;
            held = 0;
            for (int p = 0; p < at.size; p++) {
                long height = heightOf(at.xs[p], at.ys[p], at.zs[p]);
                if (height > 0) {
                    above = true;
                } else if (height < 0) {
                    below = true;
                } else {
                    held |= 1 << p;
                }
                if (above && below) {
                    return false;
                }
            }
            if (above) {
                nx = -nx;
                ny = -ny;
                nz = -nz;
                distance = -distance;
            }
            return true;
        }

        private void shortenNormal() {
            long factor = commonFactor(commonFactor(nx, ny), nz);
            if (factor > 1) {
                nx /= factor;
                ny /= factor;
                nz /= factor;
                distance /= factor;
            }
        }

        /** Tells the plane's corners in their order, seen from outside. */
        private void goRound(Points at, int hullCorners) {
            int own = held & hullCorners;
            int here = Integer.numberOfTrailingZeros(own);
            size = 0;
            for (int k = 0; k < MOST_POINTS && k < Integer.bitCount(own); k++) {
                ring[k] = here;
                size++;
                here = nextRound(at, own, here);
            }
        }

        /** The corner with no other one to the right of the way to it. */
        private int nextRound(Points at, int own, int here) {
            int next = here;
            for (int p = 0; p < at.size; p++) {
                if (p != here && holds(own, p) && (next == here || isRight(at, here, next, p))) {
                    next = p;
                }
            }
            return next;
        }

        private boolean isRight(Points at, int a, int b, int p) {
            return nx * across(at.ys, at.zs, a, b, p)
                    + ny * across(at.zs, at.xs, a, b, p)
                    + nz * across(at.xs, at.ys, a, b, p) < 0;
        }

        /** Faces are numbered in the order of this. */
        private int rank() {
            return way(ring[0], ring[1]);
        }
    }

    /** The hull built latest, with its own copy of the points; without a hull it has no faces. */
    private static final class Hull {
        private final Points at;
        private final Face[] faces;
        private Face trial;
        private int faceCount;
        private int corners;
        private final int[] faceAlong;
        private final int[] edgeLow;
        private final int[] edgeHigh;
        private int edgeCount;
        private long sixVolumes;
        private final long[] moments;

        private Hull() {
            at = new Points();
            faces = new Face[MOST_FACES];
            for (int f = 0; f < MOST_FACES; f++) {
                faces[f] = new Face();
            }
            trial = new Face();
            faceAlong = new int[MOST_POINTS * MOST_POINTS];
            edgeLow = new int[MOST_EDGES];
            edgeHigh = new int[MOST_EDGES];
            moments = new long[3];
        }

        /** Leaves the hull as it is; fewer than four points always lie in a plane. */
        private boolean wouldBeFlat(Points given) {
            for (int p = 2; p < given.size; p++) {
                if (trial.layThrough(given, 0, 1, p)) {
                    return trial.holdsAll(given);
                }
            }
            return true;
        }

        /** To be called only with points that do not lie in a plane. */
        private void wrap(Points given) {
            at.copyFrom(given);
            findFaces();
            findCorners();
            for (int f = 0; f < faceCount; f++) {
                faces[f].goRound(at, corners);
            }
            orderFaces();
            findEdges();
            measure();
        }

        private void findFaces() {
            faceCount = 0;
            for (int a = 0; a < at.size; a++) {
                for (int b = a + 1; b < at.size; b++) {
                    for (int c = b + 1; c < at.size; c++) {
                        tryPlane(a, b, c);
                    }
                }
            }
        }

        private void tryPlane(int a, int b, int c) {
            if (faceCount >= MOST_FACES || lieInOneFace(1 << a | 1 << b | 1 << c)) {
                return;
            }
            if (trial.layThrough(at, a, b, c) && trial.turnOutside(at)) {
                trial.shortenNormal();
                Face spare = faces[faceCount];
                faces[faceCount] = trial;
                trial = spare;
                faceCount++;
            }
        }

        /** Whether a set lies in a plane found already: three of its points would only find it again. */
        private boolean lieInOneFace(int set) {
            for (int f = 0; f < faceCount; f++) {
                if ((faces[f].held & set) == set) {
                    return true;
                }
            }
            return false;
        }

        // A point in the middle of a face lies in one plane, one between the ends of an edge in two.
        private void findCorners() {
            corners = 0;
            for (int p = 0; p < at.size; p++) {
                int planes = 0;
                for (int f = 0; f < faceCount; f++) {
                    if (holds(faces[f].held, p)) {
                        planes++;
                    }
                }
                if (planes >= 3) {
                    corners |= 1 << p;
                }
            }
        }

        private void orderFaces() {
            for (int f = 1; f < faceCount; f++) {
                for (int k = f; k > 0 && faces[k].rank() < faces[k - 1].rank(); k--) {
                    Face lower = faces[k];
                    faces[k] = faces[k - 1];
                    faces[k - 1] = lower;
                }
            }
        }

        private void findEdges() {
            noteWays();
            edgeCount = 0;
            for (int a = 0; a < at.size; a++) {
                for (int b = a + 1; b < at.size; b++) {
                    if (faceAlong[way(a, b)] != NONE && edgeCount < MOST_EDGES) {
                        edgeLow[edgeCount] = a;
                        edgeHigh[edgeCount] = b;
                        edgeCount++;
                    }
                }
            }
        }

        private void noteWays() {
            Arrays.fill(faceAlong, NONE);
            for (int f = 0; f < faceCount; f++) {
                Face face = faces[f];
                for (int k = 0; k < face.size; k++) {
                    int next = k + 1 < face.size ? k + 1 : 0;
                    faceAlong[way(face.ring[k], face.ring[next])] = f;
                }
            }
        }

        private void measure() {
            sixVolumes = 0;
            Arrays.fill(moments, 0);
            for (int f = 0; f < faceCount; f++) {
                Face face = faces[f];
                for (int k = 1; k + 1 < face.size; k++) {
                    addTetrahedron(face.ring[0], face.ring[k], face.ring[k + 1]);
                }
            }
        }

        // Its fourth corner is the origin: what lies outside the hull is added as often as it is taken away.
        private void addTetrahedron(int a, int b, int c) {
            long six = at.xs[a] * ((long) at.ys[b] * at.zs[c] - (long) at.zs[b] * at.ys[c])
                    + at.ys[a] * ((long) at.zs[b] * at.xs[c] - (long) at.xs[b] * at.zs[c])
                    + at.zs[a] * ((long) at.xs[b] * at.ys[c] - (long) at.ys[b] * at.xs[c]);
            sixVolumes += six;
            moments[0] += six * (at.xs[a] + at.xs[b] + at.xs[c]);
            moments[1] += six * (at.ys[a] + at.ys[b] + at.ys[c]);
            moments[2] += six * (at.zs[a] + at.zs[b] + at.zs[c]);
        }

        private int furthest(long x, long y, long z) {
            int best = NONE;
            long bestReach = 0;
            for (int p = 0; p < at.size; p++) {
                long reach = x * at.xs[p] + y * at.ys[p] + z * at.zs[p];
                if (holds(corners, p) && (best == NONE || reach > bestReach)) {
                    best = p;
                    bestReach = reach;
                }
            }
            return best;
        }

        private int walk(int from, int to) {
            int reached = 1 << from;
            for (int taken = 0; taken < MOST_POINTS; taken++) {
                if (holds(reached, to)) {
                    return taken;
                }
                reached = stepFrom(reached);
            }
            return NONE;
        }

        /** The corners of a set and those one edge away from it. */
        private int stepFrom(int set) {
            int wider = set;
            for (int e = 0; e < edgeCount; e++) {
                int ends = 1 << edgeLow[e] | 1 << edgeHigh[e];
                if ((set & ends) != 0) {
                    wider |= ends;
                }
            }
            return wider;
        }

        private int locate(int x, int y, int z) {
            int place = 1;
            for (int f = 0; f < faceCount; f++) {
                long height = faces[f].heightOf(x, y, z);
                if (height > 0) {
                    return -1;
                }
                if (height == 0) {
                    place = 0;
                }
            }
            return place;
        }
    }
}
