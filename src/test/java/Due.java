import java.util.Arrays;
import java.util.function.ToIntFunction;

/** Counts and prints the answers that are not as due. */
final class Due {
    private int wrong = 0;
    private int sentences = 0;
    private String sentence = "";

    /** A sentence of the document, held by a test of its own. */
    void sentence(String words, Runnable test) {
        sentences++;
        sentence = "\"" + words + "\": ";
        try {
            test.run();
        } catch (RuntimeException thrown) {
            // No call may throw; the other sentences are still to be tried.
            is("a call", "an answer", thrown);
        }
        sentence = "";
    }

    void is(String call, Object want, Object got) {
        if (!want.equals(got)) {
            wrong++;
            System.out.println(sentence + call + " answered " + got + ", due is " + want);
        }
    }

    /** A refusal or a question: the answer is as due, and nothing is changed by it. */
    void unchanged(String call, int want, ToIntFunction<RecordLocks> made) {
        RecordLocks x = Crowd.made();
        is(call, want, made.applyAsInt(x));
        is("all that can be told after " + call, Crowd.UNCHANGED, Crowd.told(x));
    }

    int count() {
        return wrong;
    }

    /** Ends the program with exit code 1 if an answer was wrong. */
    void end() {
        String held = sentences == 0 ? "" : " (" + sentences + " sentences)";
        System.out.println((wrong == 0 ? "all answers are as due" : wrong + " answers are not as due") + held);
        if (wrong != 0) {
            System.exit(1);
        }
    }

    static String call(String name, int... arguments) {
        StringBuilder told = new StringBuilder(name).append('(');
        for (int place = 0; place < arguments.length; place++) {
            told.append(place == 0 ? "" : ", ").append(arguments[place]);
        }
        return told.append(')').toString();
    }

    /** Makes a call that is told by its name. */
    static int answer(Object asked, String name, int... arguments) throws ReflectiveOperationException {
        Class<?>[] types = new Class<?>[arguments.length];
        Arrays.fill(types, int.class);
        Object[] values = Arrays.stream(arguments).boxed().toArray();
        return (int) asked.getClass().getDeclaredMethod(name, types).invoke(asked, values);
    }

    /** All that can be asked of an object's state, in 225 of the 512 calls an object has. */
    static String state(RecordLocks x) {
        StringBuilder told = new StringBuilder();
        for (int owner = 0; owner < 5; owner++) {
            told.append("owner ").append(owner).append(' ');
            for (int at = 0; at < 40; at++) {
                told.append(x.lockAt(owner, at));
            }
            told.append(" waiting ").append(x.waiting(owner));
            told.append(" for ").append(x.waitsFor(owner));
            told.append(" ahead ").append(x.ahead(owner));
            told.append(" pieces ").append(x.pieces(owner)).append(" bytes without ");
            told.append(x.count(owner, RecordLocks.NONE)).append("\n");
        }
        return told.toString();
    }
}
