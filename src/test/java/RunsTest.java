import java.lang.reflect.Method;
import java.util.Arrays;
import java.util.HashMap;
import java.util.Map;
import java.util.Random;

/**
 * Long runs of all calls in any order, right and wrong ones, on new objects, against the model. No object is used for
 * more than the 512 calls that the document owes.
 */
public final class RunsTest {
    private static final int RUNS = 96;
    private static final int CALLS_OF_A_RUN = 512;
    private static final int OFTEN = 50;
    private static final String ANSWERED = " answered";
    private static final int[] WILD = {-1, 24, 44, 66, 513, -513, 65536, -65536, 65537, -65537, Integer.MAX_VALUE,
        Integer.MIN_VALUE};
    /** How far from 0 a run's points may lie: the nearer, the more of them lie in planes and lines. */
    private static final int[] REACHES = {1, 2, 3, 8, 60, 512};

    private final Random random;
    private final HullBuilder x = new HullBuilder();
    private final Model model = new Model();
    private final int reach;
    /** The run grows to many points or stays with few. */
    private final int crowd;

    private RunsTest(int run) {
        random = new Random(run);
        reach = REACHES[run % REACHES.length];
        crowd = 6 + random.nextInt(20);
    }

    public static void main(String[] args) {
        Map<String, Integer> seen = new HashMap<>();
        for (int run = 0; run < RUNS; run++) {
            RunsTest one = new RunsTest(run);
            for (int call = 1; call <= CALLS_OF_A_RUN; call++) {
                one.step("run " + run + ", call " + call + ": ", seen);
            }
        }
        for (Method method : HullBuilder.class.getMethods()) {
            if (method.getDeclaringClass() == HullBuilder.class) {
                seenOften(seen, method);
            }
        }
        Check.end();
    }

    /** Whether a call answered often, and threw each of its exceptions often: else these runs show little. */
    private static void seenOften(Map<String, Integer> seen, Method method) {
        String answered = method.getName() + ANSWERED;
        Check.isTrue(answered + " often", seen.getOrDefault(answered, 0) >= OFTEN);
        for (Class<?> exception : method.getExceptionTypes()) {
            String refused = method.getName() + " " + exception.getSimpleName();
            Check.isTrue(refused + " often", seen.getOrDefault(refused, 0) >= OFTEN);
        }
    }

    private void step(String name, Map<String, Integer> seen) {
        String call = choose();
        int[] a = arguments(call);
        Object due = model.due(call, a);
        Object got = outcome(call, a);
        Check.due(name + call + Arrays.toString(a), got, due);
        seen.merge(call + (due instanceof Number ? ANSWERED : " " + due), 1, Integer::sum);
    }

    private String choose() {
        int die = random.nextInt(100);
        if (model.pointCount() < crowd && die < 30) {
            return "point";
        }
        if (die < 8) {
            return "take";
        }
        return die < 14 ? "build" : Model.CALLS[random.nextInt(Model.CALLS.length)];
    }

    private int[] arguments(String call) {
        switch (call) {
            case "point":
            case "support":
            case "side":
                return rarelyWild(new int[] {coordinate(), coordinate(), coordinate()});
            case "take":
                return rarelyWild(new int[] {upTo(model.pointCount())});
            case "of":
                return rarelyWild(new int[] {upTo(model.pointCount()), upTo(3)});
            case "face":
            case "corner":
                return rarelyWild(new int[] {upTo(model.faceCount()), upTo(4)});
            case "offset":
                return rarelyWild(new int[] {upTo(model.faceCount())});
            case "edge":
                return rarelyWild(new int[] {upTo(model.edgeCount()), upTo(4)});
            case "steps":
                return rarelyWild(new int[] {upTo(model.pointCount()), upTo(model.pointCount())});
            case "centre":
            case "middle":
                return rarelyWild(new int[] {upTo(3)});
            case "count":
                return rarelyWild(new int[] {upTo(5)});
            default:
                return new int[0];
        }
    }

    private int coordinate() {
        return random.nextInt(2 * reach + 1) - reach;
    }

    /** Most often a number below the end, now and then the end itself. */
    private int upTo(int end) {
        return random.nextInt(10) == 0 ? end : random.nextInt(Math.max(1, end));
    }

    private int[] rarelyWild(int[] a) {
        if (random.nextInt(12) == 0) {
            a[random.nextInt(a.length)] = WILD[random.nextInt(WILD.length)];
        }
        return a;
    }

    private Object outcome(String call, int[] a) {
        try {
            return answer(call, a);
        } catch (RuntimeException thrown) {
            return thrown.getClass().getSimpleName();
        }
    }

    private Object answer(String call, int[] a) {
        switch (call) {
            case "point":
                return x.point(a[0], a[1], a[2]);
            case "take":
                return x.take(a[0]);
            case "build":
                return x.build();
            case "of":
                return x.of(a[0], a[1]);
            case "face":
                return x.face(a[0], a[1]);
            case "offset":
                return x.offset(a[0]);
            case "corner":
                return x.corner(a[0], a[1]);
            case "edge":
                return x.edge(a[0], a[1]);
            case "support":
                return x.support(a[0], a[1], a[2]);
            case "steps":
                return x.steps(a[0], a[1]);
            case "side":
                return x.side(a[0], a[1], a[2]);
            case "volume":
                return x.volume();
            case "centre":
                return x.centre(a[0]);
            case "middle":
                return x.middle(a[0]);
            default:
                return x.count(a[0]);
        }
    }
}
