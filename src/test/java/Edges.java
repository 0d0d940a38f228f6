import java.io.IOException;
import java.nio.file.Path;
import java.util.HashMap;
import java.util.HashSet;
import java.util.Map;
import java.util.Set;

/** Tests of sentences of the document, each of one sentence that names a boundary case. */
final class Edges {
    interface Scene {
        void on(AnchorThatDrags x);
    }

    interface Call {
        long on(AnchorThatDrags x);
    }

    interface CallWith {
        long on(AnchorThatDrags x, int v);
    }

    interface Body {
        void of(Edges t);
    }

    private final Document document = new Document(Path.of("../shared/DOC.md"));
    private final Set<String> names = new HashSet<>();
    private final Map<Scene, Whole> wholes = new HashMap<>();
    private String test = "";
    private int answers = 0;
    private int ofThisTest = 0;
    private int wrong = 0;

    Edges() throws IOException {
    }

    void promise(int number, String sentence, Body body) {
        test("Promise " + number, sentence, body);
    }

    void terms(String sentence, Body body) {
        test("Terms", sentence, body);
    }

    /** One test: its name is the place in the document and the sentence, which has to stand there once. */
    void test(String heading, String sentence, Body body) {
        test = heading + ": " + sentence;
        if (!names.add(test)) {
            fail("is there twice");
        }
        int times = document.quote(heading, sentence);
        if (times != 1) {
            fail("stands in the document " + times + " times");
        }
        ofThisTest = 0;
        body.of(this);
        if (ofThisTest == 0) {
            fail("asks nothing");
        }
    }

    void is(long got, long want) {
        answers++;
        ofThisTest++;
        if (got != want) {
            fail(calledFrom() + " answered " + got + ", due is " + want);
        }
    }

    void isNot(long got, long refusal) {
        answers++;
        ofThisTest++;
        if (got == refusal) {
            fail(calledFrom() + " answered " + got + ", as a refusal");
        }
    }

    /** The call is refused, and all that can be asked of the object is as it was. */
    void refused(long want, Scene scene, Call call) {
        AnchorThatDrags x = new AnchorThatDrags();
        scene.on(x);
        is(call.on(x), want);
        unchanged(scene, call);
    }

    void refused(long want, Call call) {
        refused(want, Scenes.BUSY, call);
    }

    /** Likewise for each of the numbers. */
    void refusedFor(long want, Scene scene, int[] numbers, CallWith call) {
        for (int v : numbers) {
            refused(want, scene, x -> call.on(x, v));
        }
    }

    void refusedFor(long want, int[] numbers, CallWith call) {
        refusedFor(want, Scenes.BUSY, numbers, call);
    }

    void unchanged(Scene scene, Call call) {
        Whole was = wholes.computeIfAbsent(scene, Whole::new);
        Whole is = new Whole(x -> {
            scene.on(x);
            call.on(x);
        });
        answers++;
        ofThisTest++;
        String otherwise = was.otherwise(is);
        if (otherwise != null) {
            fail(calledFrom() + " has changed " + otherwise);
        }
    }

    /** A night may have 0 .. 12 less NOW hours, whatever NOW is; boat 0 of Scenes.at lies in 44. */
    void nights(long refusal, CallWith call) {
        for (int now : new int[] {0, 1, 5, 10, 11}) {
            for (int n = 0; n <= 12 - now; n++) {
                AnchorThatDrags x = new AnchorThatDrags();
                Scenes.at(now).on(x);
                isNot(call.on(x, n), refusal);
            }
            refusedFor(refusal, Scenes.at(now), new int[] {-1, 13 - now, 13, 14, Integer.MIN_VALUE, Integer.MAX_VALUE}, call);
        }
    }

    /** Of the promises and the terms, every boundary has a test. */
    void end() {
        int unquoted = document.unquoted();
        System.out.println(names.size() + " tests of sentences, " + answers + " answers, " + wrong + " not as due, "
            + unquoted + " boundaries without a test");
        if (wrong != 0 || unquoted != 0 || document.promises() != 48) {
            System.exit(1);
        }
    }

    private void fail(String what) {
        wrong++;
        System.out.println(test + "\n    " + what);
    }

    /** The line of the test that asked. */
    private static String calledFrom() {
        return StackWalker.getInstance().walk(frames -> frames
            .filter(f -> !f.getClassName().startsWith("Edges")).findFirst()
            .map(f -> f.getFileName() + ":" + f.getLineNumber()).orElse("?"));
    }
}
