import java.util.Arrays;

/**
 * The boundary cases that promise 4, and what the terms say of planes, corners, faces and edges, name; each test tells
 * the sentence that it holds the class to.
 */
public final class BuildBoundariesTest {
    public static void main(String[] args) {
        Check.run(
            BuildBoundariesTest::exact, BuildBoundariesTest::fewerThanFour, BuildBoundariesTest::inAPlane,
            BuildBoundariesTest::inALine, BuildBoundariesTest::hardlyOutOfAPlane,
            BuildBoundariesTest::fewestAndMostFaces, BuildBoundariesTest::nothingOfTheOldHull,
            BuildBoundariesTest::threeInALine, BuildBoundariesTest::pointsOnBothSides,
            BuildBoundariesTest::normalWithoutFactor, BuildBoundariesTest::normalOutside,
            BuildBoundariesTest::offsets, BuildBoundariesTest::cornerInALine, BuildBoundariesTest::cornerInATriangle,
            BuildBoundariesTest::cornerInATetrahedron, BuildBoundariesTest::cornersAsMostOfAFace,
            BuildBoundariesTest::cornersRoundAFace, BuildBoundariesTest::facesInOrder,
            BuildBoundariesTest::edgesInOrder, BuildBoundariesTest::edgeBehindTheLastCorner,
            BuildBoundariesTest::edgeSides, BuildBoundariesTest::hullBuiltLatest);
        Check.end();
    }

    private static void exact() {
        Check.sentence("Terms", "All that follows is exact.");
        // Face 0 has the normal (127275, 127762, 125758) and the offset 65538497, past what a float tells apart.
        HullBuilder slanting = Clouds.built(new int[][] {{507, 2, 6}, {7, 506, 0}, {3, 7, 511}, {0, 0, 0}});
        Check.due("hardly outside, n . p is 65538498", slanting.side(184, 121, 212), -1);
        Check.due("hardly within, n . p is 65538496", slanting.side(76, 140, 302), 1);
        Check.due("on the face", slanting.side(7, 506, 0), 0);
        HullBuilder x = Clouds.built(Clouds.sharp());
        Check.due("six volumes", x.volume(), 1073217536L);
        Check.due("x of the centre, by the corners' mean", x.centre(0), 1073217536L * -511);
        Check.due("y of the centre, by the corners' mean", x.centre(1), 1073217536L);
        Check.due("z of the centre, by the corners' mean", x.centre(2), 1073217536L * -1024);
        HullBuilder thin = Clouds.built(Clouds.thin());
        Check.due("six volumes of a long one", thin.volume(), 1L);
        Check.due("x of its centre", thin.centre(0), 1023L);
    }

    private static void fewerThanFour() {
        Check.sentence("Promise 4: build", "or there are fewer than four.");
        HullBuilder x = new HullBuilder();
        for (int[] p : Clouds.tetrahedron()) {
            Check.refused(x.count(0) + " points", Check.STATE, x::build);
            x.point(p[0], p[1], p[2]);
        }
        Check.due("four points", x.build(), 4);
        x.take(2);
        Check.refused("three again", Check.STATE, x::build);
    }

    private static void inAPlane() {
        Check.sentence("Promise 4: build", "IllegalStateException: all points lie in a plane");
        for (int count = 4; count <= 24; count++) {
            Check.refused(count + " in a tilted plane", Check.STATE, Clouds.with(Clouds.plane(count))::build);
        }
        int[][] floor = {{-512, -512, 0}, {512, -512, 0}, {512, 512, 0}, {-512, 512, 0}, {3, 4, 0}};
        for (int axis = 0; axis < 3; axis++) {
            for (int height : new int[] {-512, 0, 512}) {
                int[][] cloud = new int[floor.length][];
                for (int p = 0; p < floor.length; p++) {
                    int[] turned = {floor[p][0], floor[p][1], floor[p][1]};
                    turned[(axis + 1) % 3] = floor[p][0];
                    turned[(axis + 2) % 3] = floor[p][1];
                    turned[axis] = height;
                    cloud[p] = turned;
                }
                Check.refused("all at " + height + " of axis " + axis, Check.STATE, Clouds.with(cloud)::build);
            }
        }
    }

    private static void inALine() {
        Check.sentence("Promise 4: build", "IllegalStateException: all points lie in a plane");
        Check.refused("four in a line", Check.STATE, Clouds.with(Clouds.line(4))::build);
        Check.refused("24 in a line", Check.STATE, Clouds.with(Clouds.line(24))::build);
        HullBuilder x = Clouds.with(Clouds.line(23));
        x.point(100, 0, 0);
        Check.refused("all but the last in a line", Check.STATE, x::build);
        HullBuilder first = Clouds.with(new int[][] {{100, 0, 0}});
        Clouds.put(first, Clouds.line(23));
        Check.refused("all but the first in a line", Check.STATE, first::build);
    }

    private static void hardlyOutOfAPlane() {
        Check.sentence("Promise 4: build", "IllegalStateException: all points lie in a plane");
        for (int odd = 0; odd < 24; odd++) {
            int[][] cloud = Clouds.plane(24);
            cloud[odd][2]++;
            Check.isTrue("point " + odd + " is 1 beside the plane", Clouds.with(cloud).build() >= 4);
        }
        Check.due("the least volume", Clouds.with(Clouds.thin()).build(), 4);
        Check.due("a volume past the ints", Clouds.with(Clouds.greatestTetrahedron()).build(), 4);
        HullBuilder x = Clouds.with(Clouds.line(22));
        x.point(100, 0, 0);
        Check.refused("a line and one point", Check.STATE, x::build);
        x.point(100, 1, 0);
        Check.due("a line and two points", x.build(), 4);
    }

    private static void fewestAndMostFaces() {
        Check.sentence("Promise 4: build", "The hull becomes that of the points: how many faces it has.");
        Check.due("the fewest", Clouds.with(Clouds.tetrahedron()).build(), 4);
        Check.due("the most", Clouds.with(Clouds.bipyramid()).build(), 44);
        Check.due("23 corners in one of them", Clouds.with(Clouds.cone()).build(), 24);
        Check.due("24 points, most of them no corners", Clouds.with(Clouds.fullCube()).build(), 6);
    }

    private static void nothingOfTheOldHull() {
        Check.sentence("Promise 4: build", "The hull becomes that of the points: how many faces it has.");
        HullBuilder x = Clouds.built(Clouds.bipyramid());
        while (x.count(0) > 0) {
            x.take(x.count(0) - 1);
        }
        Clouds.put(x, Clouds.tetrahedron());
        Check.due("from the most faces to the fewest", x.build(), 4);
        Check.due("all of it", Told.hull(x), Told.hull(Clouds.built(Clouds.tetrahedron())));
        Check.refused("an old face", Check.INDEX, () -> x.face(4, 0));
        Check.refused("an old edge", Check.INDEX, () -> x.edge(6, 0));
        Check.refused("an old corner", Check.INDEX, () -> x.steps(0, 4));
        Check.due("support", x.support(0, 0, -1), 0);
        while (x.count(0) > 0) {
            x.take(0);
        }
        Clouds.put(x, Clouds.cube(0, 4));
        Check.due("from a hull with an edge between each two", x.build(), 6);
        Check.due("all of it again", Told.hull(x), Told.hull(Clouds.built(Clouds.cube(0, 4))));
    }

    private static void threeInALine() {
        Check.sentence("Terms", "A PLANE through three points that are in no line");
        // The ends of the line are points 0 and 21; the first three points, and 22 in all, are in it.
        HullBuilder x = Clouds.with(Clouds.line(22));
        x.point(100, 0, 0);
        x.point(100, 1, 0);
        Check.due("faces", x.build(), 4);
        Check.due("counts", Told.counts(x), "[24, 4, 6, 4, 1]");
        Check.due("face 0", Told.ring(x, 0), "[0, 21, 22]");
        Check.due("face 1", Told.ring(x, 1), "[0, 22, 23]");
        Check.due("face 2", Told.ring(x, 2), "[0, 23, 21]");
        Check.due("face 3", Told.ring(x, 3), "[21, 23, 22]");
    }

    private static void pointsOnBothSides() {
        Check.sentence("Terms", "with no point above it on one of its sides, holds a FACE");
        int[][] octahedron = {{1, 0, 0}, {-1, 0, 0}, {0, 1, 0}, {0, -1, 0}, {0, 0, 1}, {0, 0, -1}};
        HullBuilder x = Clouds.with(octahedron);
        Check.due("no face through the middle of an octahedron", x.build(), 8);
        for (int f = 0; f < 8; f++) {
            Check.due("corners of face " + f, x.face(f, 0), 3);
        }
        Check.due("points in the plane give no other face", Clouds.with(Clouds.fullCube()).build(), 6);
    }

    private static void normalWithoutFactor() {
        Check.sentence("Terms", "Its NORMAL is the vector of whole numbers without a common factor");
        HullBuilder cube = Clouds.built(Clouds.cube(-512, 512));
        Check.due("a factor of a million, two zeros", Told.normal(cube, 0), "[0, -1, 0]");
        Check.due("a factor of 1", Told.normal(Clouds.built(Clouds.sharp()), 0), "[1024, -1048576, 1048575]");
        // The last face lies in x + 2y + z = 2 and is spanned by (-2, 1, 0) and (-2, 0, 2).
        HullBuilder two = Clouds.built(new int[][] {{0, 0, 0}, {2, 0, 0}, {0, 1, 0}, {0, 0, 2}});
        Check.due("a factor of 2, the least", Told.normal(two, 3), "[1, 2, 1]");
        // The last face lies in 3x + 2y + z = 6 and is spanned by (-2, 3, 0) and (-2, 0, 6).
        HullBuilder six = Clouds.built(new int[][] {{0, 0, 0}, {2, 0, 0}, {0, 3, 0}, {0, 0, 6}});
        Check.due("a factor of 6", Told.normal(six, 3), "[3, 2, 1]");
        // In 4x + 6y + 9z = 36 each two have a common factor, or none, but never all three.
        HullBuilder pairs = Clouds.built(new int[][] {{0, 0, 0}, {9, 0, 0}, {0, 6, 0}, {0, 0, 4}});
        Check.due("factors of pairs alone", Told.normal(pairs, 3), "[4, 6, 9]");
        // In 3y + 5z = 15 one is zero.
        HullBuilder wedge = Clouds.built(new int[][] {{0, 0, 0}, {0, 5, 0}, {0, 0, 3}, {7, 0, 0}, {7, 5, 0},
            {7, 0, 3}});
        Check.due("one zero", Told.normal(wedge, 3), "[0, 3, 5]");
    }

    private static void normalOutside() {
        Check.sentence("Terms", "that is at right angles to it and points outside");
        int[][] shown = Clouds.sharp();
        HullBuilder x = Clouds.built(shown);
        Check.due("the fourth point below", Told.normal(x, 0), "[1024, -1048576, 1048575]");
        shown[3] = new int[] {0, -512, 512};
        HullBuilder y = Clouds.built(shown);
        Check.due("the fourth point above", Told.ring(y, 1) + Told.normal(y, 1),
            "[0, 2, 1][-1024, 1048576, -1048575]");
        HullBuilder z = Clouds.built(Clouds.greatestTetrahedron());
        String[] normals = {"[1, -1, -1]", "[-1, -1, 1]", "[-1, 1, -1]", "[1, 1, 1]"};
        for (int f = 0; f < 4; f++) {
            Check.due("a volume past the ints, face " + f, Told.normal(z, f), normals[f]);
        }
    }

    private static void offsets() {
        Check.sentence("Terms", "its OFFSET is normal . p for its points p");
        HullBuilder x = Clouds.built(Clouds.sharp());
        Check.due("below 0", x.offset(0), -512L * 1023);
        Check.due("above 0", x.offset(1), 512L * 1023);
        HullBuilder cube = Clouds.built(Clouds.cube(0, 512));
        Check.due("through the origin", cube.offset(0), 0L);
        Check.due("at the end", cube.offset(5), 512L);
        HullBuilder low = Clouds.built(Clouds.cube(-512, -511));
        Check.due("at the other end, towards the origin", low.offset(5), -511L);
        Check.due("at the other end", low.offset(0), 512L);
    }

    private static void cornerInALine() {
        Check.sentence("Terms", "A CORNER of the hull is a point that lies in no line between two other ones");
        int[][] cloud = Arrays.copyOf(Clouds.cube(0, 512), 11);
        cloud[8] = new int[] {1, 0, 0};
        cloud[9] = new int[] {511, 0, 0};
        cloud[10] = new int[] {512, 256, 512};
        HullBuilder x = Clouds.built(cloud);
        Check.due("in edges, near their ends", Told.counts(x), "[11, 6, 12, 8, 1]");
        Check.due("the ring past them", Told.ring(x, 0), "[0, 1, 5, 4]");
        Check.refused("steps", Check.INDEX, () -> x.steps(0, 8));
        cloud[9] = new int[] {511, -1, 0};
        Check.due("1 beside the edge", Clouds.built(cloud).count(3), 9);
        cloud[9] = new int[] {-1, 0, 0};
        Check.due("in the line, not between: the old end is none", Clouds.built(cloud).count(3), 8);
    }

    private static void cornerInATriangle() {
        Check.sentence("Terms", "nor in a triangle or tetrahedron of other ones.");
        int[][] cloud = Arrays.copyOf(Clouds.cube(0, 512), 9);
        cloud[8] = new int[] {511, 1, 512};
        HullBuilder x = Clouds.built(cloud);
        Check.due("in a face, near a corner", Told.counts(x), "[9, 6, 12, 8, 1]");
        Check.due("the ring round it", Told.ring(x, 5), "[4, 5, 6, 7]");
        cloud[8] = new int[] {511, 1, 511};
        Check.due("1 within", Clouds.built(cloud).count(3), 8);
        int[][] low = Arrays.copyOf(Clouds.cube(0, 511), 9);
        low[8] = new int[] {510, 1, 512};
        Check.due("1 above the face", Told.counts(Clouds.built(low)), "[9, 9, 16, 9, 1]");
    }

    private static void cornerInATetrahedron() {
        Check.sentence("Terms", "nor in a triangle or tetrahedron of other ones.");
        int[][] cloud = {{1, 1, 1}, {0, 0, 0}, {4, 0, 0}, {0, 4, 0}, {0, 0, 4}};
        HullBuilder x = Clouds.built(cloud);
        Check.due("within, the lowest number", Told.counts(x), "[5, 4, 6, 4, 1]");
        Check.due("numbers from 1", Told.ring(x, 0), "[1, 2, 4]");
        Check.due("support never answers it", x.support(0, 0, 0), 1);
        Check.refused("steps", Check.INDEX, () -> x.steps(0, 1));
        cloud[0] = new int[] {2, 1, 1};
        Check.due("in the slanting face", Clouds.built(cloud).count(3), 4);
        cloud[0] = new int[] {2, 2, 1};
        Check.due("1 outside of it", Clouds.built(cloud).count(3), 5);
    }

    private static void cornersAsMostOfAFace() {
        Check.sentence("Terms", "The corners of a face are those that lie in its plane");
        HullBuilder x = Clouds.built(Clouds.cone());
        int great = 0;
        for (int f = 0; f < 24; f++) {
            great += x.face(f, 0) == 23 ? 1 : 0;
        }
        Check.due("faces with 23 corners", great, 1);
        HullBuilder y = Clouds.built(Clouds.fullCube());
        for (int f = 0; f < 6; f++) {
            Check.due("points in the plane that are no corners", y.face(f, 0), 4);
        }
    }

    private static void cornersRoundAFace() {
        Check.sentence("Terms", "told in the order in which they go round it counterclockwise, seen from outside, "
            + "beginning with the lowest number.");
        HullBuilder x = Clouds.built(Clouds.cone());
        int[] want = new int[23];
        for (int k = 0; k < 23; k++) {
            // Seen from below, against the parabola's way, which is 7 * p % 23 for point p.
            want[k] = 13 * k % 23;
        }
        // Faces with the first corner 0: by their second ones 10, 13 and 23.
        Check.due("23 corners", Told.ring(x, 1), Arrays.toString(want));
        Check.due("seen from the other side", Told.ring(x, 0), "[0, 10, 23]");
        Check.due("round the end", Told.ring(x, 2), "[0, 23, 13]");
        HullBuilder y = Clouds.built(Clouds.greatestTetrahedron());
        Check.due("a volume past the ints", Told.ring(y, 0), "[0, 1, 2]");
    }

    private static void facesInOrder() {
        Check.sentence("Terms", "Faces are numbered from 0 in the order of their first corners, those with the same "
            + "one in the order of their second corners.");
        HullBuilder x = Clouds.built(Clouds.bipyramid());
        String[] first = {"[0, 1, 22]", "[0, 21, 23]", "[0, 22, 21]", "[0, 23, 1]"};
        for (int f = 0; f < 4; f++) {
            Check.due("face " + f, Told.ring(x, f), first[f]);
        }
        for (int p = 1; p <= 20; p++) {
            int[] upper = {p, p + 1, 22};
            int[] lower = {p, 23, p + 1};
            Check.due("face " + upper(p), Told.ring(x, upper(p)), Arrays.toString(upper));
            Check.due("face " + lower(p), Told.ring(x, lower(p)), Arrays.toString(lower));
        }
    }

    private static void edgesInOrder() {
        Check.sentence("Terms", "Edges are numbered from 0 in the order of a, then of b.");
        HullBuilder x = Clouds.built(Clouds.bipyramid());
        int[][] want = bipyramidEdges();
        Check.due("the most edges", x.count(2), want.length);
        for (int e = 0; e < want.length; e++) {
            Check.due("edge " + e, x.edge(e, 0) + " " + x.edge(e, 1), want[e][0] + " " + want[e][1]);
        }
        HullBuilder y = Clouds.built(Clouds.tetrahedron());
        int e = 0;
        for (int a = 0; a < 4; a++) {
            for (int b = a + 1; b < 4; b++) {
                Check.due("the fewest edges, " + e, y.edge(e, 0) + " " + y.edge(e, 1), a + " " + b);
                e++;
            }
        }
        Check.due("the fewest edges", y.count(2), e);
    }

    private static void edgeBehindTheLastCorner() {
        Check.sentence("Terms", "An EDGE is a pair of corners a < b, one behind the other (in either order) in a "
            + "face.");
        HullBuilder x = Clouds.built(Clouds.cone());
        // The great ring [0, 13, .., 10] ends at 10, and goes on to 0.
        Check.due("counts", Told.counts(x), "[24, 24, 46, 24, 1]");
        Check.due("the first edges", Told.edge(x, 0), "[0, 10, 0, 1]");
        Check.due("one step round the end", x.steps(10, 0), 1);
        Check.due("no edge across the ring", x.steps(0, 1), 2);
    }

    private static void edgeSides() {
        Check.sentence("Terms", "It is LEFT of it where the face goes from a to b, RIGHT where it goes from b to a.");
        HullBuilder x = Clouds.built(Clouds.bipyramid());
        int[][] want = bipyramidEdges();
        for (int e = 0; e < want.length; e++) {
            Check.due("edge " + e, Told.edge(x, e), Arrays.toString(want[e]));
        }
    }

    private static void hullBuiltLatest() {
        Check.sentence("Terms", "The HULL is that of the points as they were when it was built latest; none at first.");
        HullBuilder x = Clouds.with(Clouds.cube(0, 4));
        Check.refused("none at first, though there are points", Check.STATE, x::volume);
        x.build();
        String cube = Told.hull(x);
        x.point(2, 2, 100);
        Check.due("a point put in later", Told.hull(x), cube);
        x.take(0);
        Check.due("a point taken out later", Told.hull(x), cube);
        x.build();
        Check.due("built again", x.support(0, 0, 1), 7);
        x.take(7);
        x.point(0, 0, 0);
        x.build();
        Check.due("the same points, the corner 0 with another number", x.volume(), 6L * 64);
        Check.due("its new number", x.support(-1, -1, -1), 7);
    }

    private static int upper(int p) {
        return p == 0 ? 0 : 2 + 2 * p;
    }

    private static int lower(int p) {
        return p == 0 ? 3 : 3 + 2 * p;
    }

    /** Between 21 and 0 are the faces 2 above and 1 below. */
    private static int[][] bipyramidEdges() {
        int[][] edges = new int[66][];
        edges[0] = new int[] {0, 1, upper(0), lower(0)};
        edges[1] = new int[] {0, 21, 1, 2};
        edges[2] = new int[] {0, 22, 2, upper(0)};
        edges[3] = new int[] {0, 23, lower(0), 1};
        for (int p = 1; p <= 20; p++) {
            edges[3 * p + 1] = new int[] {p, p + 1, upper(p), lower(p)};
            edges[3 * p + 2] = new int[] {p, 22, upper(p - 1), upper(p)};
            edges[3 * p + 3] = new int[] {p, 23, lower(p), lower(p - 1)};
        }
        edges[64] = new int[] {21, 22, upper(20), 2};
        edges[65] = new int[] {21, 23, 1, lower(20)};
        return edges;
    }
}
