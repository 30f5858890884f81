import java.util.Arrays;
import java.util.Random;

/** Many clouds, with all that can be asked of their hulls, against the oracle. */
public final class OracleTest {
    private static final int[][][] SHAPES = {Clouds.cone(), Clouds.bipyramid(), Clouds.stack(),
        Clouds.greatestTetrahedron(), Clouds.sharp(), Clouds.thin(), Clouds.fullCube(), Clouds.line(24)};

    private static int round;
    private static int hulls;
    private static int flats;
    private static int mostFaces;
    private static int mostEdges;
    private static int mostInRing;

    public static void main(String[] args) {
        Random random = new Random(20261116);
        // One object is used for all of them: nothing of an earlier hull may show in a later one. The document owes
        // nothing after an object's 512th call; this class answers on, and the other tests make new objects.
        HullBuilder x = new HullBuilder();
        int[][] latest = null;
        for (round = 0; round < 700; round++) {
            int[][] cloud = cloud(random);
            while (x.count(0) > 0) {
                x.take(random.nextInt(x.count(0)));
            }
            Clouds.put(x, cloud);
            latest = compare(x, cloud, latest, random);
        }
        Check.isTrue("clouds of both kinds, " + hulls + " and " + flats, hulls > 500 && flats > 20);
        Check.due("the most faces", mostFaces, 44);
        Check.due("the most edges", mostEdges, 66);
        Check.due("the most corners of a face", mostInRing, 23);
        Check.end();
    }

    private static int[][] cloud(Random random) {
        if (round < SHAPES.length) {
            return SHAPES[round];
        }
        int few = 4 + random.nextInt(9);
        switch (round % 8) {
            case 0:
                return Clouds.ball(random, round % 40 == 0 ? 24 : few);
            case 1:
                return Clouds.box(random, few, -512, new int[] {1025, 1025, 1025});
            case 2:
                return Clouds.box(random, few, -1, new int[] {3, 3, 3});
            case 3:
                return Clouds.box(random, few, 0, new int[] {2, 3, 4});
            case 4:
                return Clouds.box(random, round % 16 == 4 ? 24 : few, -2, new int[] {3, 3, 3});
            case 5:
                return Clouds.box(random, few, 100, new int[] {12, 3, 1 + random.nextInt(3)});
            case 6:
                return Clouds.tilted(random, few, random.nextInt(4));
            default:
                return Clouds.box(random, few, -5, new int[] {11, 11, 11});
        }
    }

    /** Answers the points of the hull that stands afterwards. */
    private static int[][] compare(HullBuilder x, int[][] cloud, int[][] latest, Random random) {
        Oracle want = new Oracle(cloud);
        int before = x.count(4);
        if (!want.isFlat()) {
            Check.due(name("build"), x.build(), want.faces.size());
            Check.due(name("hulls"), x.count(4), before + 1);
            hulls++;
            compareHull(x, want, random);
            return cloud;
        }
        flats++;
        Check.refused(name("build"), Check.STATE, x::build);
        Check.due(name("hulls"), x.count(4), before);
        if (latest != null) {
            compareHull(x, new Oracle(latest), random);
        }
        return latest;
    }

    private static void compareHull(HullBuilder x, Oracle want, Random random) {
        Check.due(name("faces"), x.count(1), want.faces.size());
        Check.due(name("edges"), x.count(2), want.edges.size());
        Check.due(name("corners"), x.count(3), want.corners.size());
        mostFaces = Math.max(mostFaces, x.count(1));
        mostEdges = Math.max(mostEdges, x.count(2));
        for (int f = 0; f < want.faces.size(); f++) {
            compareFace(x, f, want.faces.get(f));
        }
        for (int e = 0; e < want.edges.size(); e++) {
            Check.due(name("edge " + e), Told.edge(x, e), Arrays.toString(want.edges.get(e)));
        }
        compareSteps(x, want);
        Check.due(name("volume"), x.volume(), want.sixVolumes);
        for (int i = 0; i < 3; i++) {
            Check.due(name("centre " + i), x.centre(i), want.moments[i].longValueExact());
            Check.due(name("middle " + i), x.middle(i), want.moments[i].doubleValue() / (4.0 * want.sixVolumes));
        }
        comparePlaces(x, want, random);
    }

    private static void compareFace(HullBuilder x, int f, long[] want) {
        long[] got = new long[4 + x.face(f, 0)];
        for (int i = 0; i < 3; i++) {
            got[i] = x.face(f, i + 1);
        }
        got[3] = x.offset(f);
        for (int k = 4; k < got.length; k++) {
            got[k] = x.corner(f, k - 4);
        }
        mostInRing = Math.max(mostInRing, got.length - 4);
        Check.due(name("face " + f), Arrays.toString(got), Arrays.toString(want));
        Check.refused(name("corner behind the last"), Check.INDEX, () -> x.corner(f, want.length - 4));
    }

    private static void compareSteps(HullBuilder x, Oracle want) {
        for (int a = 0; a < want.at.length; a++) {
            for (int b = 0; b < want.at.length; b++) {
                int from = a;
                int to = b;
                if (want.corners.contains(a) && want.corners.contains(b)) {
                    Check.due(name("steps " + a + " " + b), x.steps(a, b), want.distance[a][b]);
                } else {
                    Check.refused(name("steps " + a + " " + b), Check.INDEX, () -> x.steps(from, to));
                }
            }
        }
    }

    private static void comparePlaces(HullBuilder x, Oracle want, Random random) {
        for (int i = 0; i < 40; i++) {
            int[] a = want.at[random.nextInt(want.at.length)];
            int[] b = want.at[random.nextInt(want.at.length)];
            int[] q = {(a[0] + b[0]) / 2, (a[1] + b[1]) / 2, (a[2] + b[2]) / 2};
            q[random.nextInt(3)] += random.nextInt(3) - 1;
            Check.due(name("side " + Arrays.toString(q)), x.side(q[0], q[1], q[2]), want.side(q));
            int reach = i % 2 == 0 ? 2 : 65536;
            int[] d = {random.nextInt(2 * reach + 1) - reach, random.nextInt(2 * reach + 1) - reach,
                random.nextInt(2 * reach + 1) - reach};
            Check.due(name("support " + Arrays.toString(d)), x.support(d[0], d[1], d[2]),
                want.support(d[0], d[1], d[2]));
        }
        for (int[] p : want.at) {
            Check.due(name("side " + Arrays.toString(p)), x.side(p[0], p[1], p[2]), want.side(p));
        }
    }

    private static String name(String what) {
        return "cloud " + round + ": " + what;
    }
}
