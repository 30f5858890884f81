import java.util.Arrays;

/** What an object answers, as texts that can be compared. */
final class Told {
    private Told() {
    }

    /** All that can be seen of an object, with a few questions of support, steps and side. */
    static String all(HullBuilder x) {
        return counts(x) + "\n" + points(x) + (x.count(1) == 0 ? "no hull" : hull(x));
    }

    static String counts(HullBuilder x) {
        int[] got = new int[5];
        for (int what = 0; what < 5; what++) {
            got[what] = x.count(what);
        }
        return Arrays.toString(got);
    }

    static String points(HullBuilder x) {
        StringBuilder told = new StringBuilder();
        int count = x.count(0);
        for (int p = 0; p < count; p++) {
            told.append(point(x, p)).append('\n');
        }
        return told.toString();
    }

    static String point(HullBuilder x, int p) {
        return Arrays.toString(new int[] {x.of(p, 0), x.of(p, 1), x.of(p, 2)});
    }

    static String normal(HullBuilder x, int f) {
        return Arrays.toString(new int[] {x.face(f, 1), x.face(f, 2), x.face(f, 3)});
    }

    static String ring(HullBuilder x, int f) {
        return Arrays.toString(corners(x, f));
    }

    static int[] corners(HullBuilder x, int f) {
        int[] got = new int[x.face(f, 0)];
        for (int k = 0; k < got.length; k++) {
            got[k] = x.corner(f, k);
        }
        return got;
    }

    static String edge(HullBuilder x, int e) {
        return Arrays.toString(new int[] {x.edge(e, 0), x.edge(e, 1), x.edge(e, 2), x.edge(e, 3)});
    }

    static String hull(HullBuilder x) {
        StringBuilder told = new StringBuilder();
        int faces = x.count(1);
        for (int f = 0; f < faces; f++) {
            told.append(ring(x, f)).append(normal(x, f)).append(x.offset(f)).append('\n');
        }
        int edges = x.count(2);
        for (int e = 0; e < edges; e++) {
            told.append(edge(x, e)).append('\n');
        }
        told.append(x.count(3)).append(' ').append(x.volume()).append(' ').append(x.side(1, 1, 1));
        for (int what = 0; what < 3; what++) {
            told.append(' ').append(x.centre(what)).append(' ').append(x.middle(what));
        }
        int low = x.support(-3, -2, -1);
        int high = x.support(3, 2, 1);
        told.append(' ').append(low).append(' ').append(high).append(' ').append(x.steps(low, high));
        return told.toString();
    }
}
