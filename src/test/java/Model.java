import java.util.ArrayList;
import java.util.Arrays;
import java.util.List;

/** The document's promises in their plainest form, over the oracle: what each call is due to answer or to throw. */
final class Model {
    static final String[] CALLS = {"point", "take", "build", "of", "face", "offset", "corner", "edge", "support",
        "steps", "side", "volume", "centre", "middle", "count"};

    private final List<int[]> points = new ArrayList<>();
    private Oracle hull;
    private int built;

    /** What a call is due to answer; of a refused call the exception's name. */
    Object due(String call, int[] a) {
        switch (call) {
            case "point":
                return point(a);
            case "take":
                return isIn(a[0], points.size()) ? taken(a[0]) : Check.INDEX;
            case "build":
                return build();
            case "of":
                return isIn(a[0], points.size()) && isIn(a[1], 3) ? (Object) points.get(a[0])[a[1]] : Check.INDEX;
            case "count":
                return isIn(a[0], 5) ? (Object) counts()[a[0]] : Check.INDEX;
            default:
                return hull == null ? Check.STATE : ofHull(call, a);
        }
    }

    int pointCount() {
        return points.size();
    }

    int faceCount() {
        return hull == null ? 0 : hull.faces.size();
    }

    int edgeCount() {
        return hull == null ? 0 : hull.edges.size();
    }

    private Object point(int[] at) {
        for (int coordinate : at) {
            if (!isIn(coordinate + 512L, 1025)) {
                return Check.ARGUMENT;
            }
        }
        for (int[] p : points) {
            if (Arrays.equals(p, at)) {
                return Check.ARGUMENT;
            }
        }
        if (points.size() == 24) {
            return Check.STATE;
        }
        points.add(at.clone());
        return points.size() - 1;
    }

    private Object taken(int p) {
        points.remove(p);
        return points.size();
    }

    private Object build() {
        Oracle found = new Oracle(points.toArray(new int[0][]));
        if (found.isFlat()) {
            return Check.STATE;
        }
        hull = found;
        built++;
        return hull.faces.size();
    }

    private int[] counts() {
        int corners = hull == null ? 0 : hull.corners.size();
        return new int[] {points.size(), faceCount(), edgeCount(), corners, built};
    }

    private Object ofHull(String call, int[] a) {
        switch (call) {
            case "face":
                return isIn(a[0], faceCount()) && isIn(a[1], 4) ? face(hull.faces.get(a[0]), a[1]) : Check.INDEX;
            case "offset":
                return isIn(a[0], faceCount()) ? (Object) hull.faces.get(a[0])[3] : Check.INDEX;
            case "corner":
                return isIn(a[0], faceCount()) && isIn(a[1], hull.faces.get(a[0]).length - 4)
                    ? (Object) (int) hull.faces.get(a[0])[4 + a[1]] : Check.INDEX;
            case "edge":
                return isIn(a[0], edgeCount()) && isIn(a[1], 4) ? (Object) hull.edges.get(a[0])[a[1]] : Check.INDEX;
            case "steps":
                return hull.corners.contains(a[0]) && hull.corners.contains(a[1])
                    ? (Object) hull.distance[a[0]][a[1]] : Check.INDEX;
            case "support":
                return areInReach(a) ? (Object) hull.support(a[0], a[1], a[2]) : Check.ARGUMENT;
            case "side":
                return areInReach(a) ? (Object) hull.side(a) : Check.ARGUMENT;
            case "volume":
                return hull.sixVolumes;
            case "centre":
                return isIn(a[0], 3) ? (Object) hull.moments[a[0]].longValueExact() : Check.INDEX;
            default:
                return isIn(a[0], 3) ? (Object) (hull.moments[a[0]].doubleValue() / (4.0 * hull.sixVolumes))
                    : Check.INDEX;
        }
    }

    /** The oracle tells a normal, an offset and then the corners. */
    private static Object face(long[] told, int what) {
        return what == 0 ? told.length - 4 : (int) told[what - 1];
    }

    private static boolean isIn(long value, long end) {
        return value >= 0 && value < end;
    }

    private static boolean areInReach(int[] a) {
        return isIn(a[0] + 65536L, 131073) && isIn(a[1] + 65536L, 131073) && isIn(a[2] + 65536L, 131073);
    }
}
