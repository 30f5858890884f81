/** What the terms say of exceptions: which comes first, and that a refused call changes nothing. */
public final class RefusalBoundariesTest {
    /** Makes an object in some state, the same one each time. */
    private interface Maker {
        HullBuilder make();
    }

    /** A call on an object. */
    private interface Call {
        Object on(HullBuilder x);
    }

    /** Empty, four points, 24 points, and points in a plane after build has been refused. */
    private static final Maker[] WITHOUT_HULL = {HullBuilder::new, () -> Clouds.with(Clouds.tetrahedron()),
        () -> Clouds.with(Clouds.fullCube()), RefusalBoundariesTest::flatRefused};
    private static final int[] WILD = {0, 1, -1, 24, 44, 66, 513, 65537, Integer.MIN_VALUE, Integer.MAX_VALUE};

    public static void main(String[] args) {
        Check.run(
            RefusalBoundariesTest::argumentBeforeState, RefusalBoundariesTest::noHull,
            RefusalBoundariesTest::noHullComesFirst, RefusalBoundariesTest::pointsAreNoQuestionOfTheHull,
            RefusalBoundariesTest::emptyUnchanged, RefusalBoundariesTest::threePointsUnchanged,
            RefusalBoundariesTest::flatUnchanged, RefusalBoundariesTest::builtUnchanged,
            RefusalBoundariesTest::fullUnchanged, RefusalBoundariesTest::builtThenFlatUnchanged,
            RefusalBoundariesTest::builtThenEmptyUnchanged);
        Check.end();
    }

    private static void argumentBeforeState() {
        Check.sentence("Terms", "IllegalArgumentException, then IllegalStateException, as told");
        HullBuilder x = Clouds.with(Clouds.fullCube());
        Check.refused("full", Check.STATE, () -> x.point(100, 100, 100));
        Check.refused("full, x out of reach", Check.ARGUMENT, () -> x.point(513, 0, 0));
        Check.refused("full, y out of reach", Check.ARGUMENT, () -> x.point(100, -513, 0));
        Check.refused("full, z out of reach", Check.ARGUMENT, () -> x.point(100, 0, Integer.MIN_VALUE));
        Check.refused("full, the first one's place", Check.ARGUMENT, () -> x.point(2, 2, 2));
        Check.refused("full, the last one's place", Check.ARGUMENT, () -> x.point(4, 3, 3));
        x.build();
        Check.refused("full, with a hull, a place taken", Check.ARGUMENT, () -> x.point(2, 2, 2));
        Check.refused("full, with a hull", Check.STATE, () -> x.point(100, 100, 100));
    }

    /** Questions that every hull answers. */
    private static void noHull() {
        String index = "IllegalStateException; IndexOutOfBoundsException.";
        noHull("Promise 6: face", index, x -> x.face(0, 0));
        noHull("Promise 7: offset", index, x -> x.offset(0));
        noHull("Promise 8: corner", index, x -> x.corner(0, 0));
        noHull("Promise 9: edge", index, x -> x.edge(0, 0));
        noHull("Promise 10: support", "IllegalStateException; IllegalArgumentException", x -> x.support(1, 0, 0));
        noHull("Promise 11: steps", "IllegalStateException; IndexOutOfBoundsException", x -> x.steps(0, 0));
        noHull("Promise 12: side", "IllegalStateException; IllegalArgumentException", x -> x.side(0, 0, 0));
        noHull("Promise 13: volume", "IllegalStateException.", HullBuilder::volume);
        noHull("Promise 14: centre", index, x -> x.centre(0));
        noHull("Promise 15: middle", index, x -> x.middle(0));
    }

    private static void noHull(String heading, String words, Call call) {
        Check.sentence(heading, words);
        for (int s = 0; s < WITHOUT_HULL.length; s++) {
            HullBuilder x = WITHOUT_HULL[s].make();
            Check.refused("no hull, state " + s, Check.STATE, () -> call.on(x));
        }
        HullBuilder built = Clouds.built(Clouds.tetrahedron());
        Check.isTrue("a hull", outcome(built, call) instanceof Number);
        for (int left = 4; left > 0; left--) {
            built.take(0);
        }
        Check.isTrue("a hull, though its points are gone", outcome(built, call) instanceof Number);
    }

    private static void noHullComesFirst() {
        Check.sentence("Terms", "every question about the hull is also refused with IllegalStateException, tested "
            + "first, when there is none.");
        for (int s = 0; s < WITHOUT_HULL.length; s++) {
            for (int a : WILD) {
                HullBuilder x = WITHOUT_HULL[s].make();
                String name = "state " + s + ", argument " + a + ": ";
                Check.refused(name + "face", Check.STATE, () -> x.face(a, 0));
                Check.refused(name + "face's place", Check.STATE, () -> x.face(0, a));
                Check.refused(name + "offset", Check.STATE, () -> x.offset(a));
                Check.refused(name + "corner", Check.STATE, () -> x.corner(a, 0));
                Check.refused(name + "corner's place", Check.STATE, () -> x.corner(0, a));
                Check.refused(name + "edge", Check.STATE, () -> x.edge(a, 0));
                Check.refused(name + "edge's place", Check.STATE, () -> x.edge(0, a));
                Check.refused(name + "support", Check.STATE, () -> x.support(a, 0, 0));
                Check.refused(name + "support", Check.STATE, () -> x.support(0, a, a));
                Check.refused(name + "steps", Check.STATE, () -> x.steps(a, 0));
                Check.refused(name + "steps", Check.STATE, () -> x.steps(0, a));
                Check.refused(name + "side", Check.STATE, () -> x.side(a, 0, 0));
                Check.refused(name + "side", Check.STATE, () -> x.side(0, a, a));
                Check.refused(name + "volume", Check.STATE, x::volume);
                Check.refused(name + "centre", Check.STATE, () -> x.centre(a));
                Check.refused(name + "middle", Check.STATE, () -> x.middle(a));
            }
        }
    }

    private static void pointsAreNoQuestionOfTheHull() {
        Check.sentence("Terms", "every question about the hull is also refused with IllegalStateException, tested "
            + "first, when there is none.");
        HullBuilder x = Clouds.with(Clouds.tetrahedron());
        Check.due("of, without a hull", x.of(1, 0), 1);
        Check.refused("of no point, without a hull", Check.INDEX, () -> x.of(4, 0));
        Check.due("count, without a hull", x.count(3), 0);
        Check.refused("count of nothing, without a hull", Check.INDEX, () -> x.count(5));
        Check.refused("take none, without a hull", Check.INDEX, () -> x.take(4));
        Check.due("take, without a hull", x.take(3), 3);
    }

    private static void emptyUnchanged() {
        Maker empty = HullBuilder::new;
        pointCallsUnchanged(empty, 0);
        hullQuestionsUnchanged(empty, Check.STATE);
        unchanged("build", Check.STATE, empty, HullBuilder::build);
    }

    private static void threePointsUnchanged() {
        Maker three = () -> Clouds.with(new int[][] {{0, 0, 0}, {2, 0, 0}, {0, 2, 0}});
        pointCallsUnchanged(three, 3);
        hullQuestionsUnchanged(three, Check.STATE);
        unchanged("a place taken", Check.ARGUMENT, three, x -> x.point(0, 2, 0));
        unchanged("build", Check.STATE, three, HullBuilder::build);
    }

    private static void flatUnchanged() {
        Maker flat = () -> Clouds.with(Clouds.plane(24));
        pointCallsUnchanged(flat, 24);
        unchanged("no room", Check.STATE, flat, x -> x.point(100, 100, 100));
        unchanged("build", Check.STATE, flat, HullBuilder::build);
    }

    private static void builtUnchanged() {
        Maker built = () -> Clouds.built(Clouds.cube(0, 4));
        pointCallsUnchanged(built, 8);
        hullQuestionsUnchanged(built, Check.INDEX);
        unchanged("a place taken", Check.ARGUMENT, built, x -> x.point(4, 4, 4));
        unchanged("corner 4 of 4", Check.INDEX, built, x -> x.corner(0, 4));
        unchanged("face's place", Check.INDEX, built, x -> x.face(0, 4));
        unchanged("edge's place", Check.INDEX, built, x -> x.edge(0, 4));
        unchanged("steps to none", Check.INDEX, built, x -> x.steps(0, 8));
        unchanged("support", Check.ARGUMENT, built, x -> x.support(0, 0, 65537));
        unchanged("side", Check.ARGUMENT, built, x -> x.side(0, -65537, 0));
    }

    private static void fullUnchanged() {
        Maker full = () -> Clouds.built(Clouds.fullCube());
        pointCallsUnchanged(full, 24);
        unchanged("no room", Check.STATE, full, x -> x.point(100, 100, 100));
        unchanged("a place taken", Check.ARGUMENT, full, x -> x.point(2, 2, 2));
        unchanged("steps from a point within", Check.INDEX, full, x -> x.steps(0, 2));
        unchanged("steps from a point in an edge", Check.INDEX, full, x -> x.steps(1, 2));
    }

    /** The points have become others than the hull's; only those in one plane are left. */
    private static void builtThenFlatUnchanged() {
        Maker floor = () -> {
            HullBuilder x = Clouds.built(Clouds.cube(0, 4));
            for (int p = 7; p >= 4; p--) {
                x.take(p);
            }
            return x;
        };
        pointCallsUnchanged(floor, 4);
        unchanged("build", Check.STATE, floor, HullBuilder::build);
        Maker other = () -> {
            HullBuilder x = Clouds.built(Clouds.tetrahedron());
            for (int left = 4; left > 0; left--) {
                x.take(0);
            }
            Clouds.put(x, Clouds.plane(24));
            return x;
        };
        unchanged("build, more points than the hull had", Check.STATE, other, HullBuilder::build);
    }

    private static void builtThenEmptyUnchanged() {
        Maker gone = () -> {
            HullBuilder x = Clouds.built(Clouds.cube(0, 4));
            while (x.count(0) > 0) {
                x.take(0);
            }
            return x;
        };
        pointCallsUnchanged(gone, 0);
        hullQuestionsUnchanged(gone, Check.INDEX);
        unchanged("build", Check.STATE, gone, HullBuilder::build);
    }

    /** Refused calls that are about the points, of which there are so many. */
    private static void pointCallsUnchanged(Maker maker, int points) {
        unchanged("x out of reach", Check.ARGUMENT, maker, x -> x.point(513, 9, 9));
        unchanged("y out of reach", Check.ARGUMENT, maker, x -> x.point(9, -513, 9));
        unchanged("z out of reach", Check.ARGUMENT, maker, x -> x.point(9, 9, 513));
        unchanged("take behind the last", Check.INDEX, maker, x -> x.take(points));
        unchanged("take -1", Check.INDEX, maker, x -> x.take(-1));
        unchanged("of behind the last", Check.INDEX, maker, x -> x.of(points, 0));
        unchanged("of -1", Check.INDEX, maker, x -> x.of(-1, 0));
        unchanged("count 5", Check.INDEX, maker, x -> x.count(5));
        unchanged("count -1", Check.INDEX, maker, x -> x.count(-1));
    }

    private static void hullQuestionsUnchanged(Maker maker, String exception) {
        unchanged("face", exception, maker, x -> x.face(44, 0));
        unchanged("offset", exception, maker, x -> x.offset(-1));
        unchanged("corner", exception, maker, x -> x.corner(44, 0));
        unchanged("edge", exception, maker, x -> x.edge(66, 0));
        unchanged("steps", exception, maker, x -> x.steps(24, 0));
        unchanged("centre", exception, maker, x -> x.centre(3));
        unchanged("middle", exception, maker, x -> x.middle(3));
    }

    private static void unchanged(String name, String exception, Maker maker, Call call) {
        Check.sentence("Terms", "Such a call changes nothing.");
        HullBuilder untouched = maker.make();
        HullBuilder x = maker.make();
        Check.refused(name, exception, () -> call.on(x));
        Check.due(name + ", all that is seen afterwards", Told.all(x), Told.all(untouched));
        // What is not seen at once would show in the next hull.
        Check.due(name + ", what build does then", outcome(x, HullBuilder::build),
            outcome(untouched, HullBuilder::build));
        Check.due(name + ", all that is seen after build", Told.all(x), Told.all(untouched));
    }

    /** A call's answer, or the name of what it throws. */
    private static Object outcome(HullBuilder x, Call call) {
        try {
            return call.on(x);
        } catch (RuntimeException thrown) {
            return thrown.getClass().getSimpleName();
        }
    }

    private static HullBuilder flatRefused() {
        HullBuilder x = Clouds.with(Clouds.plane(5));
        outcome(x, HullBuilder::build);
        return x;
    }
}
