import java.util.TreeSet;

/** The boundary cases that promises 1, 2, 3 and 5 name; each test tells the sentence that it holds the class to. */
public final class PointBoundariesTest {
    private static final int[] WILD = {-1, -24, 32, 64, 65536, Integer.MIN_VALUE, Integer.MAX_VALUE};

    public static void main(String[] args) {
        Check.run(
            PointBoundariesTest::atMost24AtPlacesOfTheirOwn, PointBoundariesTest::newObject,
            PointBoundariesTest::newObjectsShareNothing, PointBoundariesTest::numbers,
            PointBoundariesTest::coordinateAtTheEnds, PointBoundariesTest::coordinateBeyondTheEnds,
            PointBoundariesTest::placeTaken, PointBoundariesTest::placeFree, PointBoundariesTest::placeFreeAgain,
            PointBoundariesTest::full, PointBoundariesTest::fullAgain, PointBoundariesTest::takeFirst,
            PointBoundariesTest::takeMiddle, PointBoundariesTest::takeLast, PointBoundariesTest::takeLeavesTheHull,
            PointBoundariesTest::takeCounts, PointBoundariesTest::takeNone, PointBoundariesTest::coordinates,
            PointBoundariesTest::noSuchCoordinate, PointBoundariesTest::noSuchPoint);
        Check.end();
    }

    private static void atMost24AtPlacesOfTheirOwn() {
        Check.sentence("Terms", "POINTS 0, 1, .. (at most 24) have whole coordinates, -512 .. 512; no two are at one "
            + "place.");
        HullBuilder x = new HullBuilder();
        int went = 0;
        // 36 places are in reach and 13 are not; each is tried more than once, and points are taken out between.
        for (int i = 0; i < 147; i++) {
            went += tryPoint(x, 507 + i % 7, -507 - i / 7 % 7) ? 1 : 0;
            if (i % 49 == 30) {
                x.take(i % x.count(0));
                went--;
            }
        }
        Check.due("how many", x.count(0), went);
        Check.due("at most 24", went, 24);
        TreeSet<String> places = new TreeSet<>();
        for (int p = 0; p < went; p++) {
            Check.isTrue("x of " + p, x.of(p, 0) <= 512);
            Check.isTrue("y of " + p, x.of(p, 1) >= -512);
            places.add(Told.point(x, p));
        }
        Check.due("places", places.size(), went);
    }

    private static boolean tryPoint(HullBuilder x, int at, int low) {
        try {
            Check.due("number", x.point(at, low, 0), x.count(0) - 1);
            return true;
        } catch (IllegalArgumentException | IllegalStateException refused) {
            return false;
        }
    }

    private static void newObject() {
        Check.sentence("Promise 1: A new object", "No points, no hull.");
        HullBuilder x = new HullBuilder();
        Check.due("counts", Told.counts(x), "[0, 0, 0, 0, 0]");
        Check.refused("of", Check.INDEX, () -> x.of(0, 0));
        Check.refused("take", Check.INDEX, () -> x.take(0));
        Check.refused("face", Check.STATE, () -> x.face(0, 0));
        Check.refused("support", Check.STATE, () -> x.support(1, 0, 0));
        Check.refused("side", Check.STATE, () -> x.side(0, 0, 0));
        Check.refused("volume", Check.STATE, x::volume);
        Check.due("the first number", x.point(0, 0, 0), 0);
    }

    private static void newObjectsShareNothing() {
        Check.sentence("Promise 1: A new object", "No points, no hull.");
        HullBuilder old = Clouds.built(Clouds.cube(0, 4));
        HullBuilder x = new HullBuilder();
        Check.due("counts beside an old object", Told.counts(x), "[0, 0, 0, 0, 0]");
        Check.refused("volume beside an old object", Check.STATE, x::volume);
        Check.due("a place taken in the old object", x.point(0, 0, 0), 0);
        Check.due("the old object", Told.counts(old), "[8, 6, 12, 8, 1]");
    }

    private static void numbers() {
        Check.sentence("Promise 2: point", "Puts in a point: its number.");
        HullBuilder x = new HullBuilder();
        for (int p = 0; p < 24; p++) {
            Check.due("number", x.point(p, -p, 2 * p), p);
            Check.due("how many", x.count(0), p + 1);
        }
        for (int p = 0; p < 24; p++) {
            Check.due("point " + p, Told.point(x, p), "[" + p + ", " + -p + ", " + 2 * p + "]");
        }
    }

    private static void coordinateAtTheEnds() {
        Check.sentence("Promise 2: point", "a coordinate is not -512 .. 512");
        HullBuilder x = new HullBuilder();
        int[][] ends = {{512, 0, 0}, {-512, 0, 0}, {0, 512, 0}, {0, -512, 0}, {0, 0, 512}, {0, 0, -512},
            {512, 512, 512}, {-512, -512, -512}, {511, -511, 511}};
        for (int p = 0; p < ends.length; p++) {
            Check.due("at the end", x.point(ends[p][0], ends[p][1], ends[p][2]), p);
        }
    }

    private static void coordinateBeyondTheEnds() {
        Check.sentence("Promise 2: point", "a coordinate is not -512 .. 512");
        // The later ones would be within if they were cut to 16 bits or their signs taken off.
        int[] beyond = {513, -513, 1024, 65536, -65536, 65537, 1 << 24, Integer.MAX_VALUE, Integer.MIN_VALUE,
            Integer.MIN_VALUE + 1};
        HullBuilder x = new HullBuilder();
        for (int bad : beyond) {
            Check.refused("x " + bad, Check.ARGUMENT, () -> x.point(bad, 0, 0));
            Check.refused("y " + bad, Check.ARGUMENT, () -> x.point(0, bad, 0));
            Check.refused("z " + bad, Check.ARGUMENT, () -> x.point(0, 0, bad));
            Check.refused("all " + bad, Check.ARGUMENT, () -> x.point(bad, bad, bad));
        }
        Check.due("none went in", x.count(0), 0);
    }

    private static void placeTaken() {
        Check.sentence("Promise 2: point", "or a point is at that place");
        HullBuilder x = Clouds.with(Clouds.cube(-512, 512));
        for (int p = 0; p < 8; p++) {
            int[] at = {x.of(p, 0), x.of(p, 1), x.of(p, 2)};
            Check.refused("the place of point " + p, Check.ARGUMENT, () -> x.point(at[0], at[1], at[2]));
        }
        Check.due("none went in", x.count(0), 8);
    }

    private static void placeFree() {
        Check.sentence("Promise 2: point", "or a point is at that place");
        int[][] near = {{1, 2, 3}, {1, 2, 4}, {1, 3, 3}, {2, 2, 3}, {3, 2, 1}, {-1, 2, 3}, {1, -2, 3}, {1, 2, -3},
            {0, 0, 512}, {0, 1, -512}, {512, 0, 0}};
        HullBuilder x = new HullBuilder();
        for (int p = 0; p < near.length; p++) {
            Check.due("another place", x.point(near[p][0], near[p][1], near[p][2]), p);
        }
    }

    private static void placeFreeAgain() {
        Check.sentence("Promise 2: point", "or a point is at that place");
        HullBuilder x = Clouds.built(Clouds.cube(0, 4));
        x.take(7);
        x.take(0);
        Check.due("the place of a point taken out, still a corner of the hull", x.point(0, 0, 0), 6);
        Check.due("the place of the last one taken out", x.point(0, 4, 4), 7);
        Check.refused("once more", Check.ARGUMENT, () -> x.point(0, 0, 0));
    }

    private static void full() {
        Check.sentence("Promise 2: point", "IllegalStateException: there are 24.");
        int[][] cloud = Clouds.bipyramid();
        HullBuilder x = new HullBuilder();
        for (int p = 0; p < 24; p++) {
            Check.due("room for number " + p, x.point(cloud[p][0], cloud[p][1], cloud[p][2]), p);
        }
        Check.refused("number 24", Check.STATE, () -> x.point(500, 500, 500));
        Check.refused("number 24, again", Check.STATE, () -> x.point(500, 500, 500));
        Check.due("24 there", x.count(0), 24);
        Check.due("the last stays", Told.point(x, 23), "[0, 50, -9]");
    }

    private static void fullAgain() {
        Check.sentence("Promise 2: point", "IllegalStateException: there are 24.");
        HullBuilder x = Clouds.built(Clouds.bipyramid());
        Check.refused("full, with a hull", Check.STATE, () -> x.point(500, 500, 500));
        x.take(0);
        Check.due("room again", x.point(500, 500, 500), 23);
        Check.refused("full again", Check.STATE, () -> x.point(501, 500, 500));
    }

    private static void takeFirst() {
        Check.sentence("Promise 3: take", "A point is taken out; those behind it get numbers lower by 1");
        int[][] cloud = Clouds.bipyramid();
        HullBuilder x = Clouds.with(cloud);
        x.take(0);
        Check.due("behind the first of 24", Told.points(x), Told.points(Clouds.with(without(cloud, 0))));
    }

    private static void takeMiddle() {
        Check.sentence("Promise 3: take", "A point is taken out; those behind it get numbers lower by 1");
        int[][] cloud = Clouds.bipyramid();
        HullBuilder x = Clouds.with(cloud);
        x.take(11);
        Check.due("behind the twelfth of 24", Told.points(x), Told.points(Clouds.with(without(cloud, 11))));
    }

    private static void takeLast() {
        Check.sentence("Promise 3: take", "A point is taken out; those behind it get numbers lower by 1");
        int[][] cloud = Clouds.bipyramid();
        HullBuilder x = Clouds.with(cloud);
        x.take(23);
        Check.due("before the last of 24", Told.points(x), Told.points(Clouds.with(without(cloud, 23))));
        HullBuilder one = Clouds.with(new int[][] {{1, 2, 3}});
        one.take(0);
        Check.refused("the only one is out", Check.INDEX, () -> one.of(0, 0));
    }

    private static void takeLeavesTheHull() {
        Check.sentence("Promise 3: take", "the hull stays as it is");
        HullBuilder x = Clouds.built(Clouds.cube(0, 4));
        String before = Told.hull(x);
        x.take(0);
        Check.due("a corner taken out", Told.hull(x), before);
        while (x.count(0) > 0) {
            x.take(x.count(0) - 1);
        }
        Check.due("all taken out", Told.hull(x), before);
        Check.due("steps to a corner taken out", x.steps(0, 6), 3);
        Check.due("support at a corner taken out", x.support(1, 1, 1), 6);
    }

    private static void takeCounts() {
        Check.sentence("Promise 3: take", "how many there are");
        HullBuilder x = Clouds.with(Clouds.bipyramid());
        for (int left = 23; left >= 0; left--) {
            Check.due("left", x.take(left / 2), left);
            Check.due("count", x.count(0), left);
        }
    }

    private static void takeNone() {
        Check.sentence("Promise 3: take", "IndexOutOfBoundsException.");
        HullBuilder x = Clouds.built(Clouds.bipyramid());
        Check.refused("24 of 24", Check.INDEX, () -> x.take(24));
        for (int bad : WILD) {
            Check.refused("number " + bad, Check.INDEX, () -> x.take(bad));
        }
        Check.due("none went out", x.count(0), 24);
        x.take(23);
        Check.refused("23 of 23, a corner of the hull", Check.INDEX, () -> x.take(23));
        HullBuilder empty = new HullBuilder();
        Check.refused("0 of none", Check.INDEX, () -> empty.take(0));
        Check.refused("-1 of none", Check.INDEX, () -> empty.take(-1));
    }

    private static void coordinates() {
        Check.sentence("Promise 5: of", "Coordinate what (0, 1, 2) of a point.");
        HullBuilder x = Clouds.with(new int[][] {{-512, 0, 512}, {512, -512, 1}});
        Check.due("the first", Told.point(x, 0), "[-512, 0, 512]");
        Check.due("the last", Told.point(x, 1), "[512, -512, 1]");
        x.take(0);
        Check.due("the last, moved down", Told.point(x, 0), "[512, -512, 1]");
    }

    private static void noSuchCoordinate() {
        Check.sentence("Promise 5: of", "IndexOutOfBoundsException.");
        HullBuilder x = Clouds.with(Clouds.cube(0, 4));
        Check.refused("what 3", Check.INDEX, () -> x.of(0, 3));
        for (int bad : WILD) {
            Check.refused("what " + bad, Check.INDEX, () -> x.of(0, bad));
        }
    }

    private static void noSuchPoint() {
        Check.sentence("Promise 5: of", "IndexOutOfBoundsException.");
        HullBuilder x = Clouds.built(Clouds.bipyramid());
        Check.refused("24 of 24", Check.INDEX, () -> x.of(24, 0));
        for (int bad : WILD) {
            Check.refused("point " + bad, Check.INDEX, () -> x.of(bad, 0));
        }
        x.take(5);
        Check.refused("23 of 23, a corner of the hull", Check.INDEX, () -> x.of(23, 0));
        HullBuilder empty = new HullBuilder();
        Check.refused("0 of none", Check.INDEX, () -> empty.of(0, 0));
        Check.refused("-1 of none", Check.INDEX, () -> empty.of(-1, 0));
    }

    private static int[][] without(int[][] cloud, int left) {
        int[][] rest = new int[cloud.length - 1][];
        for (int p = 0; p < rest.length; p++) {
            rest[p] = cloud[p < left ? p : p + 1];
        }
        return rest;
    }
}
