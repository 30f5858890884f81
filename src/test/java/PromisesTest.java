import java.util.Arrays;

/** Each promise of the document with ordinary inputs, the edges it names and wrong inputs. */
public final class PromisesTest {
    private static final int[] WILD = {-1, Integer.MIN_VALUE, Integer.MAX_VALUE};

    public static void main(String[] args) {
        Check.run(
            PromisesTest::promise1, PromisesTest::promise2, PromisesTest::promise2Full, PromisesTest::promise3,
            PromisesTest::promise4, PromisesTest::promise4Refused, PromisesTest::promise5, PromisesTest::promise6,
            PromisesTest::promise7, PromisesTest::promise8, PromisesTest::promise9, PromisesTest::promise10,
            PromisesTest::promise11, PromisesTest::promise12, PromisesTest::promise13, PromisesTest::promise14,
            PromisesTest::promise15, PromisesTest::promise16, PromisesTest::withoutHull, PromisesTest::changedPoints);
        Check.end();
    }

    private static void promise1() {
        HullBuilder x = new HullBuilder();
        for (int what = 0; what < 5; what++) {
            Check.due("new: count " + what, x.count(what), 0);
        }
        Check.refused("new: of", Check.INDEX, () -> x.of(0, 0));
        Check.refused("new: take", Check.INDEX, () -> x.take(0));
        Check.refused("new: build", Check.STATE, x::build);
        Check.refused("new: volume", Check.STATE, x::volume);
    }

    private static void promise2() {
        HullBuilder x = new HullBuilder();
        Check.due("point", x.point(0, 0, 0), 0);
        Check.due("point, ends", x.point(-512, 512, -512), 1);
        Check.due("point, ends", x.point(512, -512, 512), 2);
        Check.due("point, one coordinate differs", x.point(0, 0, 1), 3);
        Check.due("point, one coordinate differs", x.point(0, 1, 0), 4);
        Check.due("point, one coordinate differs", x.point(1, 0, 0), 5);
        Check.refused("point again", Check.ARGUMENT, () -> x.point(-512, 512, -512));
        for (int bad : new int[] {513, -513, Integer.MIN_VALUE, Integer.MAX_VALUE}) {
            Check.refused("point x " + bad, Check.ARGUMENT, () -> x.point(bad, 7, 7));
            Check.refused("point y " + bad, Check.ARGUMENT, () -> x.point(7, bad, 7));
            Check.refused("point z " + bad, Check.ARGUMENT, () -> x.point(7, 7, bad));
        }
        Check.due("refused points are not put in", x.count(0), 6);
    }

    private static void promise2Full() {
        HullBuilder x = new HullBuilder();
        for (int p = 0; p < 24; p++) {
            Check.due("point " + p, x.point(p, p * p / 2, p % 5), p);
        }
        Check.refused("point 25", Check.STATE, () -> x.point(100, 100, 100));
        Check.refused("point 25, out of reach", Check.ARGUMENT, () -> x.point(513, 0, 0));
        Check.refused("point 25, place taken", Check.ARGUMENT, () -> x.point(2, 2, 2));
        Check.due("24 stay", x.count(0), 24);
        Check.due("take", x.take(23), 23);
        Check.due("point behind take", x.point(100, 100, 100), 23);
        Check.due("build with 24", x.build(), x.count(1));
    }

    private static void promise3() {
        HullBuilder x = Clouds.with(Clouds.cube(0, 4));
        Check.due("take in the middle", x.take(3), 7);
        Check.due("numbers before it stay", Told.point(x, 2), "[4, 4, 0]");
        Check.due("those behind it move down", Told.point(x, 3), "[0, 0, 4]");
        Check.due("the last moves down", Told.point(x, 6), "[0, 4, 4]");
        Check.due("take the first", x.take(0), 6);
        Check.due("take the last", x.take(5), 5);
        Check.due("take", Told.point(x, 4), "[4, 4, 4]");
        Check.refused("take, none there", Check.INDEX, () -> x.take(5));
        Check.refused("take 24", Check.INDEX, () -> x.take(24));
        for (int bad : WILD) {
            Check.refused("take " + bad, Check.INDEX, () -> x.take(bad));
        }
        Check.due("refused takes change nothing", x.count(0), 5);
        Check.due("the place is free again", x.point(0, 0, 0), 5);
    }

    private static void promise4() {
        Check.due("tetrahedron", Clouds.with(Clouds.tetrahedron()).build(), 4);
        Check.due("cube", Clouds.with(Clouds.cube(-512, 512)).build(), 6);
        Check.due("stuffed cube", Clouds.with(Clouds.stuffedCube()).build(), 6);
        HullBuilder x = Clouds.with(Clouds.stuffedCube());
        x.build();
        Check.due("build again", x.build(), 6);
        Check.due("built twice", x.count(4), 2);
        x.point(2, 2, 9);
        Check.due("a point does not change the hull", x.count(1), 6);
        Check.due("a gable", x.build(), 9);
    }

    private static void promise4Refused() {
        HullBuilder x = new HullBuilder();
        int[][] flat = {{0, 0, 0}, {1, 2, 3}, {2, 4, 6}, {-1, -2, -3}, {1, 0, 0}, {5, 2, 3}};
        for (int[] p : flat) {
            Check.refused("build, flat", Check.STATE, x::build);
            x.point(p[0], p[1], p[2]);
        }
        Check.refused("build, flat", Check.STATE, x::build);
        Check.due("no hull", x.count(4), 0);
        Check.due("no hull", x.count(3), 0);
        x.point(0, 0, 1);
        Check.isTrue("build, no longer flat", x.build() > 3);
        String before = Told.hull(x);
        x.take(6);
        Check.refused("build, flat again", Check.STATE, x::build);
        Check.due("the hull stays", Told.hull(x), before);
        Check.due("one hull built", x.count(4), 1);
        HullBuilder three = Clouds.with(new int[][] {{0, 0, 0}, {9, 0, 0}, {0, 9, 0}});
        Check.refused("build with three", Check.STATE, three::build);
    }

    private static void promise5() {
        HullBuilder x = Clouds.with(new int[][] {{1, 2, 3}, {-512, 0, 512}});
        Check.due("of", Told.point(x, 0), "[1, 2, 3]");
        Check.due("of", Told.point(x, 1), "[-512, 0, 512]");
        Check.refused("of, no such point", Check.INDEX, () -> x.of(2, 0));
        Check.refused("of, no such place", Check.INDEX, () -> x.of(0, 3));
        for (int bad : WILD) {
            Check.refused("of point " + bad, Check.INDEX, () -> x.of(bad, 0));
            Check.refused("of place " + bad, Check.INDEX, () -> x.of(0, bad));
        }
    }

    private static void promise6() {
        HullBuilder x = Clouds.built(Clouds.cube(0, 4));
        int[][] normals = {{0, -1, 0}, {0, 0, -1}, {-1, 0, 0}, {1, 0, 0}, {0, 1, 0}, {0, 0, 1}};
        for (int f = 0; f < 6; f++) {
            Check.due("corners of face " + f, x.face(f, 0), 4);
            Check.due("normal " + f, Told.normal(x, f), Arrays.toString(normals[f]));
        }
        // The slanting plane is 3x/6 + 2y/6 + z/6 = 1; the cross product of its edges is (18, 12, 6).
        HullBuilder t = Clouds.built(new int[][] {{0, 0, 0}, {2, 0, 0}, {0, 3, 0}, {0, 0, 6}});
        Check.due("no common factor", Told.normal(t, 3), "[3, 2, 1]");
        Check.refused("face 6", Check.INDEX, () -> x.face(6, 0));
        Check.refused("face, no such place", Check.INDEX, () -> x.face(0, 4));
        for (int bad : WILD) {
            Check.refused("face " + bad, Check.INDEX, () -> x.face(bad, 0));
            Check.refused("face's place " + bad, Check.INDEX, () -> x.face(0, bad));
        }
    }

    private static void promise7() {
        HullBuilder x = Clouds.built(Clouds.cube(-3, 7));
        long[] offsets = {3, 3, 3, 7, 7, 7};
        for (int f = 0; f < 6; f++) {
            Check.due("offset " + f, x.offset(f), offsets[f]);
        }
        // The plane x + y + z = 511, whose cross product has a common factor of about a million.
        HullBuilder far = Clouds.built(new int[][] {{512, 511, -512}, {-512, 512, 511}, {511, -512, 512},
            {-9, -9, -9}});
        Check.due("far: face", Told.ring(far, 0), "[0, 1, 2]");
        Check.due("far: normal", Told.normal(far, 0), "[1, 1, 1]");
        Check.due("far: offset", far.offset(0), 511L);
        Check.refused("offset 6", Check.INDEX, () -> x.offset(6));
        for (int bad : WILD) {
            Check.refused("offset " + bad, Check.INDEX, () -> x.offset(bad));
        }
    }

    private static void promise8() {
        HullBuilder x = Clouds.built(Clouds.cube(0, 4));
        String[] rings = {"[0, 1, 5, 4]", "[0, 3, 2, 1]", "[0, 4, 7, 3]", "[1, 2, 6, 5]", "[2, 3, 7, 6]",
            "[4, 5, 6, 7]"};
        for (int f = 0; f < 6; f++) {
            Check.due("ring " + f, Told.ring(x, f), rings[f]);
        }
        HullBuilder stuffed = Clouds.built(Clouds.stuffedCube());
        Check.due("only corners", Told.ring(stuffed, 0), "[2, 3, 9, 8]");
        Check.due("only corners", Told.ring(stuffed, 1), "[2, 6, 5, 3]");
        Check.refused("face 6", Check.INDEX, () -> x.corner(6, 0));
        Check.refused("corner 4", Check.INDEX, () -> x.corner(0, 4));
        for (int bad : WILD) {
            Check.refused("corner of face " + bad, Check.INDEX, () -> x.corner(bad, 0));
            Check.refused("corner " + bad, Check.INDEX, () -> x.corner(0, bad));
        }
    }

    private static void promise9() {
        HullBuilder x = Clouds.built(Clouds.cube(0, 4));
        int[][] edges = {{0, 1, 0, 1}, {0, 3, 1, 2}, {0, 4, 2, 0}, {1, 2, 3, 1}, {1, 5, 0, 3}, {2, 3, 4, 1},
            {2, 6, 3, 4}, {3, 7, 4, 2}, {4, 5, 5, 0}, {4, 7, 2, 5}, {5, 6, 5, 3}, {6, 7, 5, 4}};
        for (int e = 0; e < 12; e++) {
            Check.due("edge " + e, Told.edge(x, e), Arrays.toString(edges[e]));
        }
        Check.refused("edge 12", Check.INDEX, () -> x.edge(12, 0));
        Check.refused("edge, no such place", Check.INDEX, () -> x.edge(0, 4));
        for (int bad : WILD) {
            Check.refused("edge " + bad, Check.INDEX, () -> x.edge(bad, 0));
            Check.refused("edge's place " + bad, Check.INDEX, () -> x.edge(0, bad));
        }
    }

    private static void promise10() {
        HullBuilder x = Clouds.built(Clouds.stuffedCube());
        Check.due("support, one", x.support(1, 1, 1), 11);
        Check.due("support, the lowest corner, no point in an edge", x.support(0, -1, -1), 2);
        Check.due("support of nothing is the lowest corner", x.support(0, 0, 0), 2);
        Check.due("support, ends", x.support(65536, -65536, 65536), 9);
        Check.due("support, ends", x.support(-65536, 65536, -65536), 6);
        HullBuilder far = Clouds.built(new int[][] {{-510, -510, -510}, {-511, -511, -511}, {-512, -510, -500},
            {-510, -512, -505}});
        Check.due("support, all below 0", far.support(65536, 65536, 65536), 2);
        for (int bad : new int[] {65537, -65537, Integer.MIN_VALUE, Integer.MAX_VALUE}) {
            Check.refused("support x " + bad, Check.ARGUMENT, () -> x.support(bad, 0, 0));
            Check.refused("support y " + bad, Check.ARGUMENT, () -> x.support(0, bad, 0));
            Check.refused("support z " + bad, Check.ARGUMENT, () -> x.support(0, 0, bad));
        }
    }

    private static void promise11() {
        HullBuilder x = Clouds.built(Clouds.cube(0, 4));
        int[] from0 = {0, 1, 2, 1, 1, 2, 3, 2};
        for (int b = 0; b < 8; b++) {
            Check.due("steps from 0 to " + b, x.steps(0, b), from0[b]);
            Check.due("steps back from " + b, x.steps(b, 0), from0[b]);
        }
        HullBuilder stuffed = Clouds.built(Clouds.stuffedCube());
        Check.due("steps, by numbers of points", stuffed.steps(2, 11), 3);
        Check.due("steps past a point in the edge", stuffed.steps(2, 3), 1);
        for (int none : new int[] {0, 1, 4, 7, 10, 13, 14, 15, 16, 23, 24, 34, -1, -30, Integer.MIN_VALUE}) {
            Check.refused("steps from " + none, Check.INDEX, () -> stuffed.steps(none, 2));
            Check.refused("steps to " + none, Check.INDEX, () -> stuffed.steps(2, none));
            Check.refused("steps to itself " + none, Check.INDEX, () -> stuffed.steps(none, none));
        }
    }

    private static void promise12() {
        HullBuilder x = Clouds.built(Clouds.cube(-512, 512));
        Check.due("within", x.side(511, -511, 511), 1);
        Check.due("on a face", x.side(512, 0, 3), 0);
        Check.due("on an edge", x.side(512, -512, 3), 0);
        Check.due("on a corner", x.side(512, -512, 512), 0);
        Check.due("in a face's plane, beside it", x.side(512, 513, 0), -1);
        Check.due("outside", x.side(0, 0, -513), -1);
        Check.due("outside, ends", x.side(65536, -65536, 65536), -1);
        HullBuilder tilted = Clouds.built(new int[][] {{512, 511, -510}, {-512, 509, 511}, {507, -512, 512},
            {-500, -499, -512}});
        Check.due("tilted, far off", tilted.side(65536, 65536, 65536), -1);
        Check.due("tilted, far off", tilted.side(-65536, -65536, -65536), -1);
        Check.due("tilted, within", tilted.side(0, 0, 0), 1);
        for (int bad : new int[] {65537, -65537, Integer.MIN_VALUE, Integer.MAX_VALUE}) {
            Check.refused("side x " + bad, Check.ARGUMENT, () -> x.side(bad, 0, 0));
            Check.refused("side y " + bad, Check.ARGUMENT, () -> x.side(0, bad, 0));
            Check.refused("side z " + bad, Check.ARGUMENT, () -> x.side(0, 0, bad));
        }
    }

    private static void promise13() {
        Check.due("tetrahedron", Clouds.built(Clouds.tetrahedron()).volume(), 1L);
        Check.due("cube", Clouds.built(Clouds.cube(100, 104)).volume(), 6L * 64);
        Check.due("greatest cube", Clouds.built(Clouds.cube(-512, 512)).volume(), 6L << 30);
        int[][] turned = {{0, 0, 0}, {0, 0, 1}, {0, 1, 0}, {1, 0, 0}};
        Check.due("turned tetrahedron", Clouds.built(turned).volume(), 1L);
    }

    private static void promise14() {
        HullBuilder x = Clouds.built(Clouds.cube(100, 104));
        for (int what = 0; what < 3; what++) {
            Check.due("cube " + what, x.centre(what), 24L * 64 * 102);
        }
        HullBuilder far = Clouds.built(new int[][] {{512, 0, -512}, {512, 1, -512}, {512, 0, 512}, {-512, 0, -512}});
        // Six volumes are 1024 * 1024; the centre is the mean of the four corners.
        Check.due("tetrahedron x", far.centre(0), 1048576L * 1024);
        Check.due("tetrahedron y", far.centre(1), 1048576L);
        Check.due("tetrahedron z", far.centre(2), 1048576L * -1024);
        Check.refused("centre 3", Check.INDEX, () -> x.centre(3));
        for (int bad : WILD) {
            Check.refused("centre " + bad, Check.INDEX, () -> x.centre(bad));
        }
    }

    private static void promise15() {
        Check.due("tetrahedron", Clouds.built(Clouds.tetrahedron()).middle(1), 0.25);
        HullBuilder x = Clouds.built(Clouds.cube(-3, 0));
        Check.due("cube", x.middle(2), -1.5);
        // A pyramid of height 1: its middle is at a quarter of it.
        HullBuilder roof = Clouds.built(new int[][] {{0, 0, 0}, {3, 0, 0}, {0, 3, 0}, {3, 3, 0}, {1, 1, 1}});
        Check.due("pyramid x", roof.middle(0), (double) roof.centre(0) / (4.0 * (double) roof.volume()));
        Check.due("pyramid x", roof.middle(0), 1.375);
        Check.due("pyramid z", roof.middle(2), 0.25);
        Check.due("0 has no sign", Clouds.built(Clouds.cube(-9, 9)).middle(0), 0.0);
        Check.refused("middle 3", Check.INDEX, () -> x.middle(3));
        for (int bad : WILD) {
            Check.refused("middle " + bad, Check.INDEX, () -> x.middle(bad));
        }
    }

    private static void promise16() {
        HullBuilder x = Clouds.with(Clouds.cube(0, 4));
        Check.due("points, no hull yet", Told.counts(x), "[8, 0, 0, 0, 0]");
        x.point(2, 2, 2);
        x.build();
        Check.due("hull", Told.counts(x), "[9, 6, 12, 8, 1]");
        x.take(6);
        Check.due("the hull stays", Told.counts(x), "[8, 6, 12, 8, 1]");
        x.build();
        Check.due("hull without a corner", Told.counts(x), "[8, 7, 12, 7, 2]");
        Check.refused("count 5", Check.INDEX, () -> x.count(5));
        for (int bad : WILD) {
            Check.refused("count " + bad, Check.INDEX, () -> x.count(bad));
        }
    }

    /** Without a hull its questions are refused with IllegalStateException, however wrong the arguments. */
    private static void withoutHull() {
        HullBuilder x = Clouds.with(Clouds.tetrahedron());
        for (int a : new int[] {0, -1, 9, Integer.MAX_VALUE, Integer.MIN_VALUE}) {
            Check.refused("no hull: face", Check.STATE, () -> x.face(a, a));
            Check.refused("no hull: offset", Check.STATE, () -> x.offset(a));
            Check.refused("no hull: corner", Check.STATE, () -> x.corner(a, a));
            Check.refused("no hull: edge", Check.STATE, () -> x.edge(a, a));
            Check.refused("no hull: support", Check.STATE, () -> x.support(a, a, a));
            Check.refused("no hull: steps", Check.STATE, () -> x.steps(a, a));
            Check.refused("no hull: side", Check.STATE, () -> x.side(a, a, a));
            Check.refused("no hull: volume", Check.STATE, x::volume);
            Check.refused("no hull: centre", Check.STATE, () -> x.centre(a));
            Check.refused("no hull: middle", Check.STATE, () -> x.middle(a));
        }
        Check.due("still no hull", Told.counts(x), "[4, 0, 0, 0, 0]");
        Check.due("build", x.build(), 4);
    }

    /** The hull is that of the points as they were: later points and takes do not show in it. */
    private static void changedPoints() {
        HullBuilder x = Clouds.built(Clouds.stuffedCube());
        String before = Told.hull(x);
        while (x.count(0) > 0) {
            x.take(0);
        }
        Check.due("all points taken", x.centre(2), 24L * 64 * 2);
        Check.refused("build without points", Check.STATE, x::build);
        Check.due("refused build", x.volume(), 6L * 64);
        Clouds.put(x, Clouds.cube(-100, 100));
        Check.due("new points", Told.hull(x), before);
        Check.due("support by old points", x.support(1, 1, 1), 11);
        x.build();
        Check.due("the new hull", Told.hull(x), Told.hull(Clouds.built(Clouds.cube(-100, 100))));
    }
}
