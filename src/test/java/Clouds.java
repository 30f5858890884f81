import java.util.Arrays;
import java.util.Random;

/** Points for the tests, as rows of three coordinates. */
final class Clouds {
    private Clouds() {
    }

    static HullBuilder with(int[][] cloud) {
        HullBuilder made = new HullBuilder();
        put(made, cloud);
        return made;
    }

    static void put(HullBuilder into, int[][] cloud) {
        for (int[] p : cloud) {
            into.point(p[0], p[1], p[2]);
        }
    }

    static HullBuilder built(int[][] cloud) {
        HullBuilder made = with(cloud);
        made.build();
        return made;
    }

    static int[][] tetrahedron() {
        return new int[][] {{0, 0, 0}, {1, 0, 0}, {0, 1, 0}, {0, 0, 1}};
    }

    /** The cube from low to high: numbers 0 to 3 round its floor, 4 to 7 round its roof. */
    static int[][] cube(int low, int high) {
        return new int[][] {{low, low, low}, {high, low, low}, {high, high, low}, {low, high, low},
            {low, low, high}, {high, low, high}, {high, high, high}, {low, high, high}};
    }

    /** A cube of side 4 with points within it, in its faces and in its edges put in between the corners. */
    static int[][] stuffedCube() {
        return new int[][] {{2, 2, 2}, {2, 0, 0}, {0, 0, 0}, {4, 0, 0}, {2, 2, 0}, {4, 4, 0}, {0, 4, 0}, {0, 0, 2},
            {0, 0, 4}, {4, 0, 4}, {1, 1, 4}, {4, 4, 4}, {0, 4, 4}, {3, 4, 4}, {1, 0, 0}, {3, 0, 0}};
    }

    /** The stuffed cube with eight points more in its faces: no room for another one. */
    static int[][] fullCube() {
        int[][] cloud = Arrays.copyOf(stuffedCube(), 24);
        for (int p = 16; p < 24; p++) {
            cloud[p] = new int[] {p % 2 == 0 ? 0 : 4, 1 + (p - 16) / 4 * 2, 1 + (p - 16) / 2 % 2 * 2};
        }
        return cloud;
    }

    /** Six volumes are 2 to the 31st, one more than an int holds. */
    static int[][] greatestTetrahedron() {
        return new int[][] {{-512, -512, -512}, {512, 512, -512}, {512, -512, 512}, {-512, 512, 512}};
    }

    /** Its face 0 is [0, 1, 2], with the normal (1024, -1048576, 1048575): as great as they get. */
    static int[][] sharp() {
        return new int[][] {{-512, -512, -512}, {512, -511, -512}, {-511, 512, 512}, {0, 512, -512}};
    }

    /** As long as can be, but of the least volume. */
    static int[][] thin() {
        return new int[][] {{-512, -512, 0}, {512, 511, 0}, {511, 510, 0}, {512, 511, 1}};
    }

    /** Points in a line, in the order in which they lie there. */
    static int[][] line(int count) {
        int[][] cloud = new int[count][];
        for (int p = 0; p < count; p++) {
            cloud[p] = new int[] {p - 12, 2 * p - 24, 36 - 3 * p};
        }
        return cloud;
    }

    /** Points in the plane 2x - y - z = 0, in rows of six. */
    static int[][] plane(int count) {
        int[][] cloud = new int[count][];
        for (int p = 0; p < count; p++) {
            int s = p % 6 - 2;
            int t = p / 6 * 3 - 4;
            cloud[p] = new int[] {s, t, 2 * s - t};
        }
        return cloud;
    }

    /** The most faces (44) and edges (66) there can be: 22 corners round a parabola, 22 above them, 23 below. */
    static int[][] bipyramid() {
        int[][] cloud = new int[24][];
        for (int p = 0; p < 22; p++) {
            cloud[p] = new int[] {p - 11, (p - 11) * (p - 11), 0};
        }
        cloud[22] = new int[] {0, 50, 9};
        cloud[23] = new int[] {0, 50, -9};
        return cloud;
    }

    /** The most corners in a face (23): in the plane 2x - y - z = 0, numbered out of order, and a top, 23. */
    static int[][] cone() {
        int[][] cloud = new int[24][];
        for (int p = 0; p < 23; p++) {
            int t = p * 7 % 23 - 11;
            cloud[p] = new int[] {t, t * t, 2 * t - t * t};
        }
        cloud[23] = new int[] {0, 50, 400};
        return cloud;
    }

    /** Eight triangles above each other, widest in the middle: corner 3 * layer + column, as long a way as can be. */
    static int[][] stack() {
        int[][] cloud = new int[24][];
        for (int layer = 0; layer < 8; layer++) {
            int z = 2 * layer - 7;
            int r = 100 - z * z;
            cloud[3 * layer] = new int[] {2 * r, 0, z};
            cloud[3 * layer + 1] = new int[] {-r, r, z};
            cloud[3 * layer + 2] = new int[] {-r, -r, z};
        }
        return cloud;
    }

    /** Points spread over a ball's surface: nearly always 24 corners, all faces triangles. */
    static int[][] ball(Random random, int count) {
        int[][] cloud = new int[count][];
        for (int p = 0; p < count; p++) {
            do {
                cloud[p] = onBall(random);
            } while (isAmong(cloud, p));
        }
        return cloud;
    }

    private static int[] onBall(Random random) {
        double x = random.nextGaussian();
        double y = random.nextGaussian();
        double z = random.nextGaussian();
        double r = 512 / Math.sqrt(x * x + y * y + z * z);
        return new int[] {(int) (x * r), (int) (y * r), (int) (z * r)};
    }

    /** Different points of a box; a small box puts many of them in planes and lines. */
    static int[][] box(Random random, int count, int low, int[] sizes) {
        int[][] cloud = new int[count][];
        for (int p = 0; p < count; p++) {
            do {
                cloud[p] = new int[] {low + random.nextInt(sizes[0]), low + random.nextInt(sizes[1]),
                    low + random.nextInt(sizes[2])};
            } while (isAmong(cloud, p));
        }
        return cloud;
    }

    /** Whole combinations of two vectors, and a few points beside that plane: a face with many points in it. */
    static int[][] tilted(Random random, int count, int beside) {
        int[] u = vector(random);
        int[] v = vector(random);
        int[][] cloud = new int[count][];
        for (int p = 0; p < count; p++) {
            do {
                int s = random.nextInt(7) - 3;
                int t = random.nextInt(7) - 3;
                cloud[p] = new int[] {s * u[0] + t * v[0], s * u[1] + t * v[1], s * u[2] + t * v[2]};
                if (p < beside) {
                    cloud[p][random.nextInt(3)] += 1 + random.nextInt(20);
                }
            } while (isAmong(cloud, p));
        }
        return cloud;
    }

    private static int[] vector(Random random) {
        return new int[] {random.nextInt(61) - 30, random.nextInt(61) - 30, 1 + random.nextInt(30)};
    }

    private static boolean isAmong(int[][] cloud, int p) {
        for (int q = 0; q < p; q++) {
            if (Arrays.equals(cloud[q], cloud[p])) {
                return true;
            }
        }
        return false;
    }
}
