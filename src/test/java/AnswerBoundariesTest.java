import java.util.Arrays;

/** The boundary cases that promises 6 to 16 name; each test tells the sentence that it holds the class to. */
public final class AnswerBoundariesTest {
    private static final int[] WILD = {-1, -24, 32, 33, 64, 65536, -65536, Integer.MIN_VALUE, Integer.MAX_VALUE};
    private static final int[] BEYOND = {65537, -65537, 131072, -131072, 1 << 24, Integer.MAX_VALUE,
        Integer.MIN_VALUE, Integer.MIN_VALUE + 1};

    public static void main(String[] args) {
        Check.run(
            AnswerBoundariesTest::faceAnswers, AnswerBoundariesTest::noSuchFace,
            AnswerBoundariesTest::noSuchPlaceOfAFace, AnswerBoundariesTest::offsetAnswers,
            AnswerBoundariesTest::offsetOfNoFace, AnswerBoundariesTest::cornerAnswers,
            AnswerBoundariesTest::cornerNumbersStay, AnswerBoundariesTest::noSuchCorner,
            AnswerBoundariesTest::edgeAnswers, AnswerBoundariesTest::noSuchEdge,
            AnswerBoundariesTest::supportLowestOfSeveral, AnswerBoundariesTest::supportGreatest,
            AnswerBoundariesTest::supportAtTheEnds, AnswerBoundariesTest::supportBeyondTheEnds,
            AnswerBoundariesTest::stepsToItself, AnswerBoundariesTest::stepsAtLeast,
            AnswerBoundariesTest::stepsOfNoCorner, AnswerBoundariesTest::sideWithinOnOutside,
            AnswerBoundariesTest::sideOfAPoint, AnswerBoundariesTest::sideAtTheEnds,
            AnswerBoundariesTest::sideBeyondTheEnds, AnswerBoundariesTest::volumes, AnswerBoundariesTest::centres,
            AnswerBoundariesTest::centresPastTheInts, AnswerBoundariesTest::noSuchCentre,
            AnswerBoundariesTest::middles, AnswerBoundariesTest::noSuchMiddle, AnswerBoundariesTest::counts,
            AnswerBoundariesTest::countsWithoutHull, AnswerBoundariesTest::countsOfHulls,
            AnswerBoundariesTest::noSuchCount, AnswerBoundariesTest::lastOf512Calls);
        Check.end();
    }

    private static void faceAnswers() {
        Check.sentence("Promise 6: face", "Of a face: how many corners it has (what = 0), its normal's x, y, z "
            + "(1, 2, 3).");
        HullBuilder x = Clouds.built(Clouds.sharp());
        int[] first = {x.face(0, 0), x.face(0, 1), x.face(0, 2), x.face(0, 3)};
        Check.due("the first face", Arrays.toString(first), "[3, 1024, -1048576, 1048575]");
        int[] last = {x.face(3, 0), x.face(3, 1), x.face(3, 2), x.face(3, 3)};
        Check.due("the last face", Arrays.toString(last), "[3, 1047552, 524288, 522753]");
        Check.due("the most corners", Clouds.built(Clouds.cone()).face(1, 0), 23);
        Check.due("face 43", Clouds.built(Clouds.bipyramid()).face(43, 0), 3);
    }

    private static void noSuchFace() {
        Check.sentence("Promise 6: face", "IllegalStateException; IndexOutOfBoundsException.");
        HullBuilder few = Clouds.built(Clouds.tetrahedron());
        HullBuilder most = Clouds.built(Clouds.bipyramid());
        Check.refused("4 of 4", Check.INDEX, () -> few.face(4, 0));
        Check.refused("44 of 44", Check.INDEX, () -> most.face(44, 0));
        for (int bad : WILD) {
            Check.refused("face " + bad, Check.INDEX, () -> few.face(bad, 0));
            Check.refused("face " + bad + ", no place either", Check.INDEX, () -> few.face(bad, bad));
        }
        for (int bad : WILD) {
            if (bad < 0 || bad > 43) {
                Check.refused("of the most faces, " + bad, Check.INDEX, () -> most.face(bad, 3));
            }
        }
    }

    private static void noSuchPlaceOfAFace() {
        Check.sentence("Promise 6: face", "IllegalStateException; IndexOutOfBoundsException.");
        HullBuilder x = Clouds.built(Clouds.cube(0, 4));
        Check.refused("what 4", Check.INDEX, () -> x.face(0, 4));
        Check.refused("what 4 of the last", Check.INDEX, () -> x.face(5, 4));
        for (int bad : WILD) {
            Check.refused("what " + bad, Check.INDEX, () -> x.face(0, bad));
        }
    }

    private static void offsetAnswers() {
        Check.sentence("Promise 7: offset", "A face's offset.");
        HullBuilder x = Clouds.built(Clouds.sharp());
        long[] want = {-523776, 523776, 512, 785920};
        for (int f = 0; f < 4; f++) {
            Check.due("of face " + f, x.offset(f), want[f]);
        }
        Check.due("0", Clouds.built(Clouds.tetrahedron()).offset(0), 0L);
    }

    private static void offsetOfNoFace() {
        Check.sentence("Promise 7: offset", "IllegalStateException; IndexOutOfBoundsException.");
        HullBuilder few = Clouds.built(Clouds.tetrahedron());
        HullBuilder most = Clouds.built(Clouds.bipyramid());
        Check.refused("4 of 4", Check.INDEX, () -> few.offset(4));
        Check.refused("44 of 44", Check.INDEX, () -> most.offset(44));
        for (int bad : WILD) {
            Check.refused("face " + bad, Check.INDEX, () -> few.offset(bad));
        }
    }

    private static void cornerAnswers() {
        Check.sentence("Promise 8: corner", "Corner k of a face");
        HullBuilder x = Clouds.built(Clouds.cone());
        Check.due("the first", x.corner(1, 0), 0);
        Check.due("the second", x.corner(1, 1), 13);
        Check.due("the last of 23", x.corner(1, 22), 10);
    }

    private static void cornerNumbersStay() {
        Check.sentence("Promise 8: corner", "as a point's number when the hull was built.");
        HullBuilder x = Clouds.built(Clouds.stuffedCube());
        x.take(0);
        x.take(0);
        Check.due("points moved down", Told.ring(x, 0), "[2, 3, 9, 8]");
        while (x.count(0) > 0) {
            x.take(0);
        }
        Check.due("no points left", Told.ring(x, 5), "[8, 9, 11, 12]");
    }

    private static void noSuchCorner() {
        Check.sentence("Promise 8: corner", "IllegalStateException; IndexOutOfBoundsException.");
        // Face 0 is the square floor of a pyramid, the others are triangles.
        HullBuilder x = Clouds.built(new int[][] {{0, 0, 0}, {0, 4, 0}, {4, 4, 0}, {4, 0, 0}, {2, 2, 3}});
        Check.due("3 of 4", x.corner(0, 3), 3);
        Check.refused("4 of 4", Check.INDEX, () -> x.corner(0, 4));
        Check.refused("3 of 3", Check.INDEX, () -> x.corner(1, 3));
        Check.refused("of face 5 of 5", Check.INDEX, () -> x.corner(5, 0));
        for (int bad : WILD) {
            Check.refused("corner " + bad, Check.INDEX, () -> x.corner(0, bad));
            Check.refused("of face " + bad, Check.INDEX, () -> x.corner(bad, 0));
        }
        HullBuilder great = Clouds.built(Clouds.cone());
        Check.refused("23 of 23", Check.INDEX, () -> great.corner(1, 23));
        Check.refused("24 of 23", Check.INDEX, () -> great.corner(1, 24));
        // The faces' rows hold more corners once a greater hull has been built.
        while (great.count(0) > 0) {
            great.take(0);
        }
        Clouds.put(great, Clouds.tetrahedron());
        great.build();
        for (int f = 0; f < 4; f++) {
            int face = f;
            Check.refused("3 of 3 after a greater hull", Check.INDEX, () -> great.corner(face, 3));
        }
    }

    private static void edgeAnswers() {
        Check.sentence("Promise 9: edge", "Of an edge: a (what = 0), b (1), the face to its left (2), to its right "
            + "(3).");
        HullBuilder few = Clouds.built(Clouds.tetrahedron());
        Check.due("the first of the fewest", Told.edge(few, 0), "[0, 1, 0, 1]");
        Check.due("the last of the fewest", Told.edge(few, 5), "[2, 3, 3, 2]");
        HullBuilder most = Clouds.built(Clouds.bipyramid());
        Check.due("the first of the most", Told.edge(most, 0), "[0, 1, 0, 3]");
        Check.due("the last of the most", Told.edge(most, 65), "[21, 23, 1, 43]");
    }

    private static void noSuchEdge() {
        Check.sentence("Promise 9: edge", "IllegalStateException; IndexOutOfBoundsException.");
        HullBuilder few = Clouds.built(Clouds.tetrahedron());
        HullBuilder most = Clouds.built(Clouds.bipyramid());
        Check.refused("6 of 6", Check.INDEX, () -> few.edge(6, 0));
        Check.refused("66 of 66", Check.INDEX, () -> most.edge(66, 0));
        Check.refused("what 4", Check.INDEX, () -> few.edge(0, 4));
        Check.refused("what 4 of the last", Check.INDEX, () -> most.edge(65, 4));
        for (int bad : WILD) {
            Check.refused("edge " + bad, Check.INDEX, () -> few.edge(bad, 0));
            Check.refused("what " + bad, Check.INDEX, () -> few.edge(0, bad));
            Check.refused("both " + bad, Check.INDEX, () -> few.edge(bad, bad));
        }
    }

    private static void supportLowestOfSeveral() {
        Check.sentence("Promise 10: support", "the lowest of several");
        HullBuilder x = Clouds.built(Clouds.cube(-4, 4));
        Check.due("of two", x.support(0, 1, 1), 6);
        Check.due("of two, the other way", x.support(0, -1, -1), 0);
        Check.due("of four", x.support(1, 0, 0), 1);
        Check.due("of four, the other way", x.support(0, 0, 1), 4);
        Check.due("of all", x.support(0, 0, 0), 0);
        HullBuilder stuffed = Clouds.built(Clouds.stuffedCube());
        Check.due("of all, lower points being no corners", stuffed.support(0, 0, 0), 2);
        Check.due("of two, a lower point between them", stuffed.support(0, -1, -1), 2);
        Check.due("of four, a lower point among them", stuffed.support(0, 0, 1), 8);
    }

    private static void supportGreatest() {
        Check.sentence("Promise 10: support", "with the greatest d . c");
        HullBuilder low = Clouds.built(Clouds.cube(-512, -511));
        Check.due("all below 0", low.support(65536, 65536, 65536), 6);
        Check.due("all above 0", low.support(-65536, -65536, -65536), 0);
        HullBuilder thin = Clouds.built(Clouds.thin());
        Check.due("greater by 1, the later one", thin.support(-1022, 1023, 1), 3);
        Check.due("greater by 1, the earlier one", thin.support(-1022, 1023, -1), 1);
        HullBuilder high = Clouds.built(Clouds.cube(511, 512));
        Check.due("greater by 1 in 67 million, the later one", high.support(65536, 65536, 1), 6);
        Check.due("greater by 1 in 67 million, the earlier one", high.support(65536, 65536, -1), 2);
        HullBuilder most = Clouds.built(Clouds.bipyramid());
        Check.due("the last corner of 24", most.support(0, 0, -65536), 23);
        Check.due("the first corner of 24", most.support(-2, 0, 0), 0);
    }

    private static void supportAtTheEnds() {
        Check.sentence("Promise 10: support", "a coordinate is not -65536 .. 65536.");
        HullBuilder x = Clouds.built(Clouds.cube(-512, 512));
        Check.due("x", x.support(65536, 0, 0), 1);
        Check.due("-x", x.support(-65536, 0, 0), 0);
        Check.due("y", x.support(0, 65536, 0), 2);
        Check.due("-y", x.support(0, -65536, 0), 0);
        Check.due("z", x.support(0, 0, 65536), 4);
        Check.due("-z", x.support(0, 0, -65536), 0);
        Check.due("all", x.support(65536, 65536, 65536), 6);
    }

    private static void supportBeyondTheEnds() {
        Check.sentence("Promise 10: support", "a coordinate is not -65536 .. 65536.");
        HullBuilder x = Clouds.built(Clouds.cube(-512, 512));
        for (int bad : BEYOND) {
            Check.refused("x " + bad, Check.ARGUMENT, () -> x.support(bad, 0, 0));
            Check.refused("y " + bad, Check.ARGUMENT, () -> x.support(0, bad, 0));
            Check.refused("z " + bad, Check.ARGUMENT, () -> x.support(0, 0, bad));
        }
    }

    private static void stepsToItself() {
        Check.sentence("Promise 11: steps", "(0 to itself)");
        HullBuilder x = Clouds.built(Clouds.bipyramid());
        for (int p = 0; p < 24; p++) {
            Check.due("corner " + p, x.steps(p, p), 0);
        }
    }

    private static void stepsAtLeast() {
        Check.sentence("Promise 11: steps", "How many steps along edges there are at least from one corner to another "
            + "one");
        // A way along the layers and, where the columns differ, one round a layer; no object for more than 512 calls.
        for (int from = 0; from < 24; from++) {
            HullBuilder x = Clouds.built(Clouds.stack());
            for (int to = 0; to < 24; to++) {
                int want = Math.abs(from / 3 - to / 3) + (from % 3 == to % 3 ? 0 : 1);
                Check.due("from " + from + " to " + to, x.steps(from, to), want);
            }
        }
        Check.due("the longest way there is", Clouds.built(Clouds.stack()).steps(0, 23), 8);
        HullBuilder most = Clouds.built(Clouds.bipyramid());
        Check.due("past a corner", most.steps(22, 23), 2);
        Check.due("neighbours", most.steps(21, 0), 1);
        Check.due("none further than over a top", most.steps(0, 11), 2);
    }

    private static void stepsOfNoCorner() {
        Check.sentence("Promise 11: steps", "one of them is no corner.");
        HullBuilder x = Clouds.built(Clouds.stuffedCube());
        x.point(100, 100, 100);
        // Points within, in an edge and in a face; the new point; numbers past all, some of them 2 and 3 by their bits.
        int[] none = {0, 1, 4, 16, 23, 24, 31, 32, 34, 35, 66, -1, -30, -62, Integer.MIN_VALUE,
            Integer.MIN_VALUE + 2, Integer.MAX_VALUE};
        for (int bad : none) {
            Check.refused("from " + bad, Check.INDEX, () -> x.steps(bad, 3));
            Check.refused("to " + bad, Check.INDEX, () -> x.steps(3, bad));
            Check.refused("to itself, " + bad, Check.INDEX, () -> x.steps(bad, bad));
        }
        Check.due("corners still", x.steps(2, 11), 3);
        HullBuilder most = Clouds.built(Clouds.bipyramid());
        Check.due("23, the last there can be", most.steps(23, 0), 1);
        Check.refused("24 of 24", Check.INDEX, () -> most.steps(24, 0));
        Check.refused("32, 0 by its bits", Check.INDEX, () -> most.steps(32, 32));
    }

    private static void sideWithinOnOutside() {
        Check.sentence("Promise 12: side", "Where (x, y, z) lies: 1 within, 0 on a face (an edge, a corner), -1 "
            + "outside.");
        HullBuilder x = Clouds.built(Clouds.cube(-512, 512));
        for (int sign = -1; sign <= 1; sign += 2) {
            int[] near = {511 * sign, 512 * sign, 513 * sign};
            for (int k = 0; k < 3; k++) {
                Check.due("x " + near[k], x.side(near[k], 0, 0), 1 - k);
                Check.due("y " + near[k], x.side(0, near[k], 0), 1 - k);
                Check.due("z " + near[k], x.side(0, 0, near[k]), 1 - k);
            }
            Check.due("on an edge", x.side(near[1], 0, near[1]), 0);
            Check.due("past an edge's end", x.side(near[1], near[2], near[1]), -1);
            Check.due("in a face's plane, beside it", x.side(near[1], near[2], 0), -1);
            Check.due("a corner", x.side(near[1], near[1], near[1]), 0);
            Check.due("within at a corner", x.side(near[0], near[0], near[0]), 1);
            Check.due("past a corner", x.side(near[2], near[2], near[2]), -1);
        }
    }

    private static void sideOfAPoint() {
        Check.sentence("Promise 12: side", "Where (x, y, z) lies: 1 within, 0 on a face (an edge, a corner), -1 "
            + "outside.");
        HullBuilder x = Clouds.built(Clouds.stuffedCube());
        Check.due("a point within", x.side(2, 2, 2), 1);
        Check.due("a point in an edge", x.side(2, 0, 0), 0);
        Check.due("a point in a face", x.side(1, 1, 4), 0);
        HullBuilder thin = Clouds.built(Clouds.thin());
        Check.due("a corner of the least volume", thin.side(512, 511, 1), 0);
        Check.due("hardly anything is within", thin.side(0, 0, 0), -1);
        int[][] half = {{0, 0, 0}, {1, 0, 0}, {0, 1, 0}, {0, 0, 1}};
        Check.due("1 past the slanting face", Clouds.built(half).side(1, 1, 0), -1);
        Check.due("on the slanting face of one three times as great",
            Clouds.built(new int[][] {{0, 0, 0}, {3, 0, 0}, {0, 3, 0}, {0, 0, 3}}).side(1, 1, 1), 0);
    }

    private static void sideAtTheEnds() {
        Check.sentence("Promise 12: side", "a coordinate is not -65536 .. 65536.");
        HullBuilder x = Clouds.built(Clouds.sharp());
        int[] ends = {-65536, 0, 65536};
        for (int i = 0; i < 27; i++) {
            int[] q = {ends[i % 3], ends[i / 3 % 3], ends[i / 9]};
            // (0, 0, 0) lies past the great normal: its offset is below 0.
            Check.due("at " + Arrays.toString(q), x.side(q[0], q[1], q[2]), -1);
        }
        // On the plane z = -512, far beside the face; the other heights are past the ints, and 0 or less there.
        Check.due("heights past the ints", x.side(65536, 65536, -512), -1);
        Check.due("heights past the ints", x.side(65536, -65536, -512), -1);
        Check.due("heights past the ints", x.side(65536, -8192, -512), -1);
    }

    private static void sideBeyondTheEnds() {
        Check.sentence("Promise 12: side", "a coordinate is not -65536 .. 65536.");
        HullBuilder x = Clouds.built(Clouds.cube(-512, 512));
        for (int bad : BEYOND) {
            Check.refused("x " + bad, Check.ARGUMENT, () -> x.side(bad, 0, 0));
            Check.refused("y " + bad, Check.ARGUMENT, () -> x.side(0, bad, 0));
            Check.refused("z " + bad, Check.ARGUMENT, () -> x.side(0, 0, bad));
        }
    }

    private static void volumes() {
        Check.sentence("Promise 13: volume", "Six times the hull's volume.");
        Check.due("the least", Clouds.built(Clouds.tetrahedron()).volume(), 1L);
        Check.due("the least, as long as can be", Clouds.built(Clouds.thin()).volume(), 1L);
        Check.due("one past the ints", Clouds.built(Clouds.greatestTetrahedron()).volume(), 1L << 31);
        Check.due("the greatest", Clouds.built(Clouds.cube(-512, 512)).volume(), 6L << 30);
        Check.due("far from the origin", Clouds.built(Clouds.cube(-512, -511)).volume(), 6L);
        Check.due("points that are no corners", Clouds.built(Clouds.fullCube()).volume(), 6L * 64);
        HullBuilder x = Clouds.built(Clouds.cube(-512, 512));
        while (x.count(0) > 0) {
            x.take(0);
        }
        Clouds.put(x, Clouds.tetrahedron());
        x.build();
        Check.due("the least after the greatest", x.volume(), 1L);
    }

    private static void centres() {
        Check.sentence("Promise 14: centre", "Twenty-four times the volume times a coordinate (what = 0, 1, 2) of the "
            + "hull's centre (of its mass, evenly spread).");
        HullBuilder x = Clouds.built(new int[][] {{0, 0, 0}, {4, 0, 0}, {0, 8, 0}, {0, 0, 12}});
        long six = 4L * 8 * 12;
        Check.due("x of a tetrahedron", x.centre(0), six * 4);
        Check.due("y of a tetrahedron", x.centre(1), six * 8);
        Check.due("z of a tetrahedron", x.centre(2), six * 12);
        HullBuilder full = Clouds.built(Clouds.fullCube());
        for (int what = 0; what < 3; what++) {
            Check.due("points that are no corners weigh nothing", full.centre(what), 24L * 64 * 2);
            Check.due("in the origin", Clouds.built(Clouds.cube(-512, 512)).centre(what), 0L);
        }
        Check.due("of mass, not of corners", Clouds.built(new int[][] {{0, 0, 0}, {4, 0, 0}, {0, 4, 0}, {4, 4, 0},
            {2, 2, 4}}).centre(2), 4L * 2 * 64);
    }

    private static void centresPastTheInts() {
        Check.sentence("Promise 14: centre", "Twenty-four times the volume times a coordinate (what = 0, 1, 2) of the "
            + "hull's centre (of its mass, evenly spread).");
        int[][] high = Clouds.cube(-512, 512);
        int[][] low = Clouds.cube(-512, 512);
        for (int p = 0; p < 8; p++) {
            high[p][0] = Math.max(high[p][0], 0);
            low[p][2] = Math.min(low[p][2], 0);
        }
        HullBuilder x = Clouds.built(high);
        Check.due("half of the greatest cube, x", x.centre(0), 24L * 512 * 1024 * 1024 * 256);
        Check.due("half of the greatest cube, y", x.centre(1), 0L);
        Check.due("the other half, z", Clouds.built(low).centre(2), -24L * 512 * 1024 * 1024 * 256);
    }

    private static void noSuchCentre() {
        Check.sentence("Promise 14: centre", "IllegalStateException; IndexOutOfBoundsException.");
        HullBuilder x = Clouds.built(Clouds.cube(0, 4));
        Check.refused("what 3", Check.INDEX, () -> x.centre(3));
        for (int bad : WILD) {
            Check.refused("what " + bad, Check.INDEX, () -> x.centre(bad));
        }
    }

    private static void middles() {
        Check.sentence("Promise 15: middle", "centre(what) as a double divided by four times volume() as a double.");
        HullBuilder corner = Clouds.built(Clouds.cube(511, 512));
        HullBuilder low = Clouds.built(Clouds.cube(-512, -511));
        HullBuilder zero = Clouds.built(Clouds.cube(-512, 512));
        HullBuilder thin = Clouds.built(Clouds.thin());
        for (int what = 0; what < 3; what++) {
            Check.due("the greatest", corner.middle(what), 511.5);
            Check.due("the least", low.middle(what), -511.5);
            Check.due("0, without a sign", zero.middle(what), 0.0);
            Check.due("of the least volume", thin.middle(what), (double) thin.centre(what) / 4.0);
        }
        // The cube from 0 to 2 with the corner at the origin cut off: no double is 1.1, so the last bit counts.
        int[][] cut = {{2, 0, 0}, {0, 2, 0}, {2, 2, 0}, {0, 0, 2}, {2, 0, 2}, {0, 2, 2}, {2, 2, 2}};
        HullBuilder x = Clouds.built(cut);
        Check.due("six volumes", x.volume(), 40L);
        Check.due("the centre", x.centre(0), 4L * 48 - 8 * 2);
        Check.due("rounded", x.middle(0), 176.0 / 160.0);
        HullBuilder seven = Clouds.built(new int[][] {{0, 0, 0}, {7, 0, 0}, {0, 7, 0}, {0, 0, 1}});
        Check.due("divided, not times 1 / 196, which is rounded", seven.middle(0), 1.75);
        HullBuilder past = Clouds.built(Clouds.greatestTetrahedron());
        Check.due("a volume past the ints", past.middle(1), 0.0);
    }

    private static void noSuchMiddle() {
        Check.sentence("Promise 15: middle", "IllegalStateException; IndexOutOfBoundsException.");
        HullBuilder x = Clouds.built(Clouds.cube(0, 4));
        Check.refused("what 3", Check.INDEX, () -> x.middle(3));
        for (int bad : WILD) {
            Check.refused("what " + bad, Check.INDEX, () -> x.middle(bad));
        }
    }

    private static void counts() {
        Check.sentence("Promise 16: count", "0 points, 1 faces, 2 edges, 3 corners, 4 hulls built since the beginning");
        Check.due("the least", Told.counts(Clouds.built(Clouds.tetrahedron())), "[4, 4, 6, 4, 1]");
        Check.due("the most", Told.counts(Clouds.built(Clouds.bipyramid())), "[24, 44, 66, 24, 1]");
        Check.due("points that are no corners", Told.counts(Clouds.built(Clouds.fullCube())), "[24, 6, 12, 8, 1]");
        HullBuilder x = Clouds.built(Clouds.tetrahedron());
        while (x.count(0) > 0) {
            x.take(0);
        }
        Check.due("points alone are fewer when they are taken", Told.counts(x), "[0, 4, 6, 4, 1]");
    }

    private static void countsWithoutHull() {
        Check.sentence("Promise 16: count", "(1, 2, 3: 0 without a hull)");
        Check.due("no points", Told.counts(new HullBuilder()), "[0, 0, 0, 0, 0]");
        HullBuilder x = Clouds.with(Clouds.bipyramid());
        Check.due("24 points, nothing built", Told.counts(x), "[24, 0, 0, 0, 0]");
        HullBuilder flat = Clouds.with(Clouds.plane(24));
        Check.refused("build", Check.STATE, flat::build);
        Check.due("24 points, build refused", Told.counts(flat), "[24, 0, 0, 0, 0]");
    }

    private static void countsOfHulls() {
        Check.sentence("Promise 16: count", "4 hulls built since the beginning");
        HullBuilder x = Clouds.with(Clouds.tetrahedron());
        for (int built = 1; built <= 3; built++) {
            x.build();
            Check.due("the same points again", x.count(4), built);
        }
        x.take(0);
        Check.refused("build", Check.STATE, x::build);
        Check.due("a refused one", x.count(4), 3);
        x.point(5, 5, 5);
        x.build();
        Check.due("one more", x.count(4), 4);
    }

    private static void noSuchCount() {
        Check.sentence("Promise 16: count", "IndexOutOfBoundsException: none of these.");
        HullBuilder none = new HullBuilder();
        HullBuilder x = Clouds.built(Clouds.tetrahedron());
        Check.refused("5, without a hull", Check.INDEX, () -> none.count(5));
        Check.refused("5", Check.INDEX, () -> x.count(5));
        for (int bad : WILD) {
            Check.refused(bad + ", without a hull", Check.INDEX, () -> none.count(bad));
            Check.refused(bad + "", Check.INDEX, () -> x.count(bad));
        }
    }

    private static void lastOf512Calls() {
        Check.sentence("What it is", "An object is used for at most 512 calls after it has been made");
        HullBuilder x = Clouds.with(Clouds.bipyramid());
        for (int call = 25; call <= 511; call++) {
            x.build();
        }
        Check.due("call 512 after 487 builds", x.count(4), 487);
        HullBuilder y = Clouds.with(Clouds.tetrahedron());
        for (int call = 5; call <= 510; call += 2) {
            y.take(3);
            y.point(0, 0, 1);
        }
        Check.due("call 511", y.count(0), 4);
        Check.due("call 512", y.build(), 4);
    }
}
