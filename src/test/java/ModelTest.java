import java.lang.reflect.Method;
import java.lang.reflect.Modifier;
import java.util.Arrays;
import java.util.Comparator;
import java.util.List;
import java.util.Random;

/** All promises: runs of calls drawn by seeds, each answered by the class as by the model. */
public final class ModelTest {
    private static final int RUNS = 1500;
    private static final int[] ODD = {-1, -2, 6, 7, 10, 12, 13, 40, 41, 99, 100, 101, 160, 255, 256, 999, 1000, 9999,
        10000, 99999, 100000, -1000, Integer.MAX_VALUE, Integer.MIN_VALUE, Integer.MAX_VALUE - 3};

    private final Random random;
    private final AnchorThatDrags real = new AnchorThatDrags();
    private final Model model = new Model();

    private ModelTest(int seed) {
        random = new Random(seed);
    }

    public static void main(String[] args) throws ReflectiveOperationException {
        List<Method> calls = Arrays.stream(AnchorThatDrags.class.getDeclaredMethods())
            .filter(m -> Modifier.isPublic(m.getModifiers()))
            .sorted(Comparator.comparing(Method::getName)).toList();
        Due due = new Due();
        due.is("calls", calls.size(), 47);
        for (int run = 0; run < RUNS; run++) {
            new ModelTest(run).run(due, calls, "run " + run + ": ");
        }
        due.end();
    }

    private void run(Due due, List<Method> calls, String run) throws ReflectiveOperationException {
        StringBuilder told = new StringBuilder(run);
        int texts = random.nextInt(3);
        for (int k = 0; k < texts; k++) {
            feed(text());
            told.append("text, ");
            due.is(told.toString(), real.text(), model.text());
        }
        // 160 bytes and the calls below stay under the 512 that an object is used for
        for (int k = 0; k < 300 - 100 * texts; k++) {
            Method call = calls.get(random.nextInt(calls.size()));
            if (call.getName().equals("goOn") && random.nextInt(4) != 0) {
                continue;
            }
            int[] args = arguments(call.getName(), call.getParameterCount());
            told.append(call.getName()).append(Arrays.toString(args)).append(' ');
            Object[] boxed = Arrays.stream(args).boxed().toArray();
            Method same = Model.class.getDeclaredMethod(call.getName(), call.getParameterTypes());
            long want = ((Number) same.invoke(model, boxed)).longValue();
            long got = ((Number) call.invoke(real, boxed)).longValue();
            due.is(told.toString(), got, want);
            if (got != want) {
                return;
            }
        }
    }

    private void feed(String text) {
        for (int k = 0; k < text.length(); k += 5) {
            int[] five = new int[5];
            int n = Math.min(5, text.length() - k);
            for (int j = 0; j < n; j++) {
                five[j] = text.charAt(k + j);
            }
            real.feed(n, five[0], five[1], five[2], five[3], five[4]);
            model.feed(n, five[0], five[1], five[2], five[3], five[4]);
        }
    }

    private int upTo(int most) {
        return random.nextInt(most + 1);
    }

    /** A text that is mostly good: at times one of its bytes is another one. */
    private String text() {
        String text;
        do {
            text = "pull " + expression(4) + ";hold " + expression(4) + ";jerk " + expression(3) + ";";
        } while (text.length() > 160);
        if (upTo(3) == 0) {
            int k = upTo(text.length() - 1);
            String signs = "();+-*<= \n0a$r";
            text = text.substring(0, k) + signs.charAt(upTo(signs.length() - 1)) + text.substring(k + upTo(1));
        }
        return text;
    }

    private String expression(int depth) {
        String[] names = {"wind", "area", "deep", "out", "bed", "heavy"};
        if (depth == 0 || upTo(3) == 0) {
            return upTo(1) == 0 ? names[upTo(5)] : String.valueOf(upTo(120));
        }
        String[] signs = {"+", "-", "*", "<", "=", " and ", " or ", " + ", " * "};
        switch (upTo(5)) {
            case 0: return "(" + expression(depth - 1) + ")";
            case 1: return "not " + expression(depth - 1);
            case 2: return "-" + expression(depth - 1);
            default: return expression(depth - 1) + signs[upTo(signs.length - 1)] + expression(depth - 1);
        }
    }

    private int[] arguments(String name, int many) {
        int[] args = likely(name);
        if (many > 0 && upTo(7) == 0) {
            args[upTo(many - 1)] = ODD[upTo(ODD.length - 1)];
        }
        return args;
    }

    private int boat() {
        return upTo(3);
    }

    private int hours() {
        return Math.max(0, Math.min(upTo(12), 12 - real.count(0) + (upTo(9) == 0 ? 1 : 0)));
    }

    /** Numbers with which the call is mostly not refused. */
    private int[] likely(String name) {
        int what = upTo(1);
        switch (name) {
            case "sound": return new int[] {upTo(99), what, upTo(what == 0 ? 30 : 3)};
            case "chart": return new int[] {upTo(99), 11 + upTo(88), what, upTo(what == 0 ? 12 : 3)};
            case "blow": return blowing();
            case "told": return new int[] {upTo(20), upTo(4)};
            case "count": return new int[] {upTo(4)};
            case "feed": return new int[] {1 + upTo(4), 32 + upTo(90), upTo(255), 97, 40, upTo(255)};
            case "force": return new int[] {upTo(3)};
            case "asks": return new int[] {upTo(2), upTo(9999), upTo(9999), upTo(39)};
            case "boat": return new int[] {upTo(5), upTo(999), upTo(99), 1 + upTo(39)};
            case "let": return new int[] {boat(), what, what == 0 ? upTo(99) : 1 + upTo(39)};
            case "boatTold": return new int[] {boat(), upTo(5)};
            case "hold": return new int[] {boat(), upTo(11), upTo(3)};
            case "night": return new int[] {hours(), boat(), upTo(3)};
            case "fleet": return new int[] {hours(), upTo(3)};
            case "hit": return new int[] {hours(), upTo(4), upTo(2)};
            case "wake": return new int[] {hours()};
            case "goOn": return new int[] {upTo(2)};
            case "veer": case "angle": case "turns": return new int[] {boat(), hours()};
            case "drop": case "size": return new int[] {boat(), hours(), what};
            case "rings": return new int[] {boat(), boat()};
            case "alarm": return new int[] {boat(), hours(), upTo(10)};
            case "line": return new int[] {upTo(99), upTo(99), upTo(99)};
            case "marks": return new int[] {boat(), hours(), upTo(9999), upTo(5)};
            case "next": return new int[] {boat(), 1 + upTo(3), what};
            case "two": return new int[] {boat(), upTo(11), upTo(3), what};
            case "trial": return new int[] {upTo(4), upTo(3), upTo(9), 9 + upTo(9)};
            case "rate": return new int[] {upTo(4), upTo(3), what};
            case "form": return new int[] {upTo(3)};
            case "judge": case "laws": return new int[] {boat(), upTo(3)};
            case "which": return new int[] {upTo(3)};
            case "film": return new int[] {boat(), upTo(3), hours()};
            case "drawn": return new int[] {upTo(99999), hours(), boat(), upTo(2)};
            case "chance": return new int[] {boat(), upTo(99999), 100 + 100 * upTo(19) + hours(), what};
            case "sheet": return new int[] {upTo(3), upTo(9) == 0 ? -1 : upTo(2), upTo(20)};
            case "cell": return new int[] {upTo(3), upTo(12), upTo(3) == 0 ? random.nextInt() : upTo(99)};
            case "copy": return new int[] {upTo(3), upTo(6), upTo(3), upTo(6), upTo(6)};
            case "boatsBy": return new int[] {upTo(3), upTo(2), upTo(5), upTo(3)};
            case "taken": return new int[] {upTo(99), upTo(6)};
            default: return new int[0];
        }
    }

    private int[] blowing() {
        int[][] all = {{0, upTo(7)}, {1, upTo(99)}, {2, upTo(6) - 3}};
        int[] one = all[upTo(2)];
        return new int[] {upTo(11), one[0], one[1]};
    }
}
