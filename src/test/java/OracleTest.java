import java.util.Arrays;
import java.util.Random;

/** Many clouds, with all that can be asked of their hulls, against the oracle. */
public final class OracleTest {
    private static final int[][][] SHAPES = {Clouds.cone(), Clouds.bipyramid(), Clouds.stack(),
        Clouds.greatestTetrahedron(), Clouds.sharp(), Clouds.thin(), Clouds.fullCube(), Clouds.line(24)};

    private static final Random RANDOM = new Random(20261116);

    private static int round;
    private static int[][] earlier = {};
    private static int[][] cloud;
    private static int hulls;
    private static int flats;
    private static int mostFaces;
    private static int mostEdges;
    private static int mostInRing;

    public static void main(String[] args) {
        for (round = 0; round < 700; round++) {
            cloud = cloud(RANDOM);
            compare();
            earlier = cloud;
        }
        Check.isTrue("clouds of both kinds, " + hulls + " and " + flats, hulls > 500 && flats > 20);
        Check.due("the most faces", mostFaces, 44);
        Check.due("the most edges", mostEdges, 66);
        Check.due("the most corners of a face", mostInRing, 23);
        Check.end();
    }

    private static int[][] cloud(Random random) {
        if (round < SHAPES.length) {
            return SHAPES[round];
        }
        int few = 4 + random.nextInt(9);
        switch (round % 8) {
            case 0:
                return Clouds.ball(random, round % 40 == 0 ? 24 : few);
            case 1:
                return Clouds.box(random, few, -512, new int[] {1025, 1025, 1025});
            case 2:
                return Clouds.box(random, few, -1, new int[] {3, 3, 3});
            case 3:
                return Clouds.box(random, few, 0, new int[] {2, 3, 4});
            case 4:
                return Clouds.box(random, round % 16 == 4 ? 24 : few, -2, new int[] {3, 3, 3});
            case 5:
                return Clouds.box(random, few, 100, new int[] {12, 3, 1 + random.nextInt(3)});
            case 6:
                return Clouds.tilted(random, few, random.nextInt(4));
            default:
                return Clouds.box(random, few, -5, new int[] {11, 11, 11});
        }
    }

    private static void compare() {
        Oracle before = new Oracle(earlier);
        Oracle want = new Oracle(cloud);
        HullBuilder x = changed();
        int built = x.count(4);
        Check.due(name("hulls before"), built, before.isFlat() ? 0 : 1);
        if (want.isFlat()) {
            flats++;
            Check.refused(name("build"), Check.STATE, x::build);
            Check.due(name("hulls"), x.count(4), built);
        } else {
            hulls++;
            Check.due(name("build"), x.build(), want.faces.size());
            Check.due(name("hulls"), x.count(4), built + 1);
        }
        Oracle stands = want.isFlat() ? before : want;
        if (!stands.isFlat()) {
            compareHull(stands);
        }
    }

    /** A hull of the earlier points, if they have one: nothing of it may show in the next one. */
    private static HullBuilder changed() {
        HullBuilder x = Clouds.with(earlier);
        tryBuild(x);
        for (int left = earlier.length; left > 0; left--) {
            x.take(RANDOM.nextInt(left));
        }
        Clouds.put(x, cloud);
        return x;
    }

    private static HullBuilder builtAgain() {
        HullBuilder x = changed();
        tryBuild(x);
        return x;
    }

    private static void tryBuild(HullBuilder x) {
        try {
            x.build();
        } catch (IllegalStateException flat) {
            // The hull stays as it is.
        }
    }

    /** Each part has an object of its own, so that none is used for more than 512 calls. */
    private static void compareHull(Oracle want) {
        compareSizes(builtAgain(), want);
        comparePlaces(builtAgain(), want);
        HullBuilder x = builtAgain();
        for (int f = 0; f < want.faces.size(); f++) {
            compareFace(x, f, want.faces.get(f));
        }
        HullBuilder y = builtAgain();
        for (int e = 0; e < want.edges.size(); e++) {
            Check.due(name("edge " + e), Told.edge(y, e), Arrays.toString(want.edges.get(e)));
        }
        int middle = want.at.length / 2;
        compareSteps(builtAgain(), want, 0, middle);
        compareSteps(builtAgain(), want, middle, want.at.length);
    }

    private static void compareSizes(HullBuilder x, Oracle want) {
        Check.due(name("faces"), x.count(1), want.faces.size());
        Check.due(name("edges"), x.count(2), want.edges.size());
        Check.due(name("corners"), x.count(3), want.corners.size());
        mostFaces = Math.max(mostFaces, x.count(1));
        mostEdges = Math.max(mostEdges, x.count(2));
        Check.due(name("volume"), x.volume(), want.sixVolumes);
        for (int i = 0; i < 3; i++) {
            Check.due(name("centre " + i), x.centre(i), want.moments[i].longValueExact());
            Check.due(name("middle " + i), x.middle(i), want.moments[i].doubleValue() / (4.0 * want.sixVolumes));
        }
    }

    private static void compareFace(HullBuilder x, int f, long[] want) {
        long[] got = new long[4 + x.face(f, 0)];
        for (int i = 0; i < 3; i++) {
            got[i] = x.face(f, i + 1);
        }
        got[3] = x.offset(f);
        for (int k = 4; k < got.length; k++) {
            got[k] = x.corner(f, k - 4);
        }
        mostInRing = Math.max(mostInRing, got.length - 4);
        Check.due(name("face " + f), Arrays.toString(got), Arrays.toString(want));
        Check.refused(name("corner behind the last"), Check.INDEX, () -> x.corner(f, want.length - 4));
    }

    private static void compareSteps(HullBuilder x, Oracle want, int first, int end) {
        for (int a = first; a < end; a++) {
            for (int b = 0; b < want.at.length; b++) {
                int from = a;
                int to = b;
                if (want.corners.contains(a) && want.corners.contains(b)) {
                    Check.due(name("steps " + a + " " + b), x.steps(a, b), want.distance[a][b]);
                } else {
                    Check.refused(name("steps " + a + " " + b), Check.INDEX, () -> x.steps(from, to));
                }
            }
        }
    }

    private static void comparePlaces(HullBuilder x, Oracle want) {
        for (int i = 0; i < 40; i++) {
            int[] a = want.at[RANDOM.nextInt(want.at.length)];
            int[] b = want.at[RANDOM.nextInt(want.at.length)];
            int[] q = {(a[0] + b[0]) / 2, (a[1] + b[1]) / 2, (a[2] + b[2]) / 2};
            q[RANDOM.nextInt(3)] += RANDOM.nextInt(3) - 1;
            Check.due(name("side " + Arrays.toString(q)), x.side(q[0], q[1], q[2]), want.side(q));
            int reach = i % 2 == 0 ? 2 : 65536;
            int[] d = {RANDOM.nextInt(2 * reach + 1) - reach, RANDOM.nextInt(2 * reach + 1) - reach,
                RANDOM.nextInt(2 * reach + 1) - reach};
            Check.due(name("support " + Arrays.toString(d)), x.support(d[0], d[1], d[2]),
                want.support(d[0], d[1], d[2]));
        }
        for (int[] p : want.at) {
            Check.due(name("side " + Arrays.toString(p)), x.side(p[0], p[1], p[2]), want.side(p));
        }
    }

    private static String name(String what) {
        return "cloud " + round + ": " + what;
    }
}
