import java.util.Random;

/** Points for the tests, as rows of three coordinates. */
final class Clouds {
    private Clouds() {
    }

    static HullBuilder with(int[][] cloud) {
        HullBuilder made = new HullBuilder();
        put(made, cloud);
        return made;
    }

    static void put(HullBuilder into, int[][] cloud) {
        for (int[] p : cloud) {
            into.point(p[0], p[1], p[2]);
        }
    }

    static HullBuilder built(int[][] cloud) {
        HullBuilder made = with(cloud);
        made.build();
        return made;
    }

    static int[][] tetrahedron() {
        return new int[][] {{0, 0, 0}, {1, 0, 0}, {0, 1, 0}, {0, 0, 1}};
    }

    /** The cube from 0 to side: numbers 0 to 3 round its floor, 4 to 7 round its roof. */
    static int[][] cube(int low, int high) {
        return new int[][] {{low, low, low}, {high, low, low}, {high, high, low}, {low, high, low},
            {low, low, high}, {high, low, high}, {high, high, high}, {low, high, high}};
    }

    /** A cube of side 4 with points within it, in its faces and in its edges put in between the corners. */
    static int[][] stuffedCube() {
        return new int[][] {{2, 2, 2}, {2, 0, 0}, {0, 0, 0}, {4, 0, 0}, {2, 2, 0}, {4, 4, 0}, {0, 4, 0}, {0, 0, 2},
            {0, 0, 4}, {4, 0, 4}, {1, 1, 4}, {4, 4, 4}, {0, 4, 4}, {3, 4, 4}, {1, 0, 0}, {3, 0, 0}};
    }

    /** Points spread over a ball's surface: nearly always 24 corners, all faces triangles. */
    static int[][] ball(Random random, int count) {
        int[][] cloud = new int[count][];
        for (int p = 0; p < count; p++) {
            do {
                cloud[p] = onBall(random);
            } while (isAmong(cloud, p));
        }
        return cloud;
    }

    private static int[] onBall(Random random) {
        double x = random.nextGaussian();
        double y = random.nextGaussian();
        double z = random.nextGaussian();
        double r = 512 / Math.sqrt(x * x + y * y + z * z);
        return new int[] {(int) (x * r), (int) (y * r), (int) (z * r)};
    }

    /** Different points of a box; a small box puts many of them in planes and lines. */
    static int[][] box(Random random, int count, int low, int[] sizes) {
        int[][] cloud = new int[count][];
        for (int p = 0; p < count; p++) {
            do {
                cloud[p] = new int[] {low + random.nextInt(sizes[0]), low + random.nextInt(sizes[1]),
                    low + random.nextInt(sizes[2])};
            } while (isAmong(cloud, p));
        }
        return cloud;
    }

    /** Whole combinations of two vectors, and a few points beside that plane: a face with many points in it. */
    static int[][] tilted(Random random, int count, int beside) {
        int[] u = vector(random);
        int[] v = vector(random);
        int[][] cloud = new int[count][];
        for (int p = 0; p < count; p++) {
            do {
                int s = random.nextInt(7) - 3;
                int t = random.nextInt(7) - 3;
                cloud[p] = new int[] {s * u[0] + t * v[0], s * u[1] + t * v[1], s * u[2] + t * v[2]};
                if (p < beside) {
                    cloud[p][random.nextInt(3)] += 1 + random.nextInt(20);
                }
            } while (isAmong(cloud, p));
        }
        return cloud;
    }

    private static int[] vector(Random random) {
        return new int[] {random.nextInt(61) - 30, random.nextInt(61) - 30, 1 + random.nextInt(30)};
    }

    private static boolean isAmong(int[][] cloud, int p) {
        for (int q = 0; q < p; q++) {
            if (java.util.Arrays.equals(cloud[q], cloud[p])) {
                return true;
            }
        }
        return false;
    }
}
