import java.util.Arrays;
import java.util.Map;

/** Promises 1 to 18 over many long runs: every answer is held against the model's. */
public final class ModelTest {
    private static final int RUNS = 3000;
    private static final int CALLS = 512;

    // What changes the locks comes more often than a question.
    private static final String[] IN_PLAY = {
        "lock owner start length type", "lock owner start length type", "lock owner start length type",
        "lock owner start length type", "lock owner start length type",
        "await owner start length type", "await owner start length type", "await owner start length type",
        "await owner start length type", "await owner start length type", "await owner start length type",
        "cancel owner", "close owner", "lockAt owner start", "lockAt owner start", "holders start", "holders start",
        "obstacle owner start length type", "wouldCircle owner start length type",
        "waiting owner", "waitsFor owner", "ahead owner",
        "pieces owner", "pieceStart owner piece", "pieceEnd owner piece", "pieceType owner piece",
        "count owner type", "free"};

    private static final Due due = new Due();
    private static int circles = 0;
    private static int manyGranted = 0;
    private static long dice = 20261115L;

    public static void main(String[] args) throws ReflectiveOperationException {
        for (int run = 0; run < RUNS && due.count() < 20; run++) {
            // Fewer bytes in play make more conflicts, more of them more pieces.
            int bytes = new int[] {2, 4, 8, 16, 40}[run % 5];
            RecordLocks x = new RecordLocks();
            Model model = new Model();
            for (int call = 0; call < CALLS; call++) {
                one(run, x, model, bytes);
            }
        }
        // Runs that never came to these would prove little.
        due.is("circles were refused often", true, circles > 1000);
        due.is("lock let in two or more often", true, manyGranted > 100);
        System.out.println(circles + " circles refused, " + manyGranted + " times two or more let in");
        due.end();
    }

    /** The same numbers each time, so that a failure can be found again. */
    private static int roll(int sides) {
        dice = dice * 6364136223846793005L + 1442695040888963407L;
        return (int) ((dice >>> 33) % sides);
    }

    private static int mostlyGood(int least, int most) {
        if (roll(60) == 0) {
            return new int[] {least - 1, most + 1, Integer.MIN_VALUE, Integer.MAX_VALUE}[roll(4)];
        }
        return least + roll(most - least + 1);
    }

    private static Map<String, Integer> rolledArguments(int bytes) {
        int owner = mostlyGood(0, 4);
        int start = mostlyGood(0, bytes - 1);
        int length = mostlyGood(1, start >= 0 && start < bytes ? bytes - start : bytes);
        int type = mostlyGood(0, 2);
        int piece = mostlyGood(0, 4);
        return Map.of("owner", owner, "start", start, "length", length, "type", type, "piece", piece);
    }

    private static void one(int run, RecordLocks x, Model model, int bytes) throws ReflectiveOperationException {
        String[] words = IN_PLAY[roll(IN_PLAY.length)].split(" ");
        Map<String, Integer> rolled = rolledArguments(bytes);
        int[] arguments = Arrays.stream(words).skip(1).mapToInt(rolled::get).toArray();
        int want = Due.answer(model, words[0], arguments);
        due.is("run " + run + ": " + Due.call(words[0], arguments), want, Due.answer(x, words[0], arguments));
        circles += words[0].equals("await") && want == -5 ? 1 : 0;
        manyGranted += words[0].equals("lock") && want > 1 ? 1 : 0;
    }
}
