/** Promises 1 to 18 over many long runs: every answer is held against the model's. */
public final class ModelTest {
    private static final int RUNS = 3000;
    private static final int CALLS = 512;

    private static final Due due = new Due();
    private static int circles = 0;
    private static int manyGranted = 0;
    private static long dice = 20261115L;

    public static void main(String[] args) {
        for (int run = 0; run < RUNS && due.count() < 20; run++) {
            // Fewer bytes in play make more conflicts, more of them more pieces.
            int bytes = new int[] {2, 4, 8, 16, 40}[run % 5];
            RecordLocks x = new RecordLocks();
            Model model = new Model();
            for (int call = 0; call < CALLS; call++) {
                one(run, x, model, bytes);
            }
        }
        // Runs that never came to these would prove little.
        due.is("circles were refused often", true, circles > 1000);
        due.is("lock let in two or more often", true, manyGranted > 100);
        System.out.println(circles + " circles refused, " + manyGranted + " times two or more let in");
        due.end();
    }

    /** The same numbers each time, so that a failure can be found again. */
    private static int roll(int sides) {
        dice = dice * 6364136223846793005L + 1442695040888963407L;
        return (int) ((dice >>> 33) % sides);
    }

    private static int mostlyGood(int least, int most) {
        if (roll(60) == 0) {
            return new int[] {least - 1, most + 1, Integer.MIN_VALUE, Integer.MAX_VALUE}[roll(4)];
        }
        return least + roll(most - least + 1);
    }

    private static void one(int run, RecordLocks x, Model model, int bytes) {
        int kind = roll(28);
        int owner = mostlyGood(0, 4);
        int start = mostlyGood(0, bytes - 1);
        int length = mostlyGood(1, start >= 0 && start < bytes ? bytes - start : bytes);
        int type = mostlyGood(0, 2);
        int piece = mostlyGood(0, 4);
        String range = "(" + owner + ", " + start + ", " + length + ", " + type + ")";
        String call;
        int got;
        int want;
        switch (kind) {
            case 0: case 1: case 2: case 3: case 4:
                call = "lock" + range;
                got = x.lock(owner, start, length, type);
                want = model.lock(owner, start, length, type);
                manyGranted += want > 1 ? 1 : 0;
                break;
            case 5: case 6: case 7: case 8: case 9: case 10:
                call = "await" + range;
                got = x.await(owner, start, length, type);
                want = model.await(owner, start, length, type);
                circles += want == -5 ? 1 : 0;
                break;
            case 11:
                call = "cancel(" + owner + ")";
                got = x.cancel(owner);
                want = model.cancel(owner);
                break;
            case 12:
                call = "close(" + owner + ")";
                got = x.close(owner);
                want = model.close(owner);
                break;
            case 13: case 14:
                call = "lockAt(" + owner + ", " + start + ")";
                got = x.lockAt(owner, start);
                want = model.lockAt(owner, start);
                break;
            case 15: case 16:
                call = "holders(" + start + ")";
                got = x.holders(start);
                want = model.holders(start);
                break;
            case 17:
                call = "obstacle" + range;
                got = x.obstacle(owner, start, length, type);
                want = model.obstacle(owner, start, length, type);
                break;
            case 18:
                call = "wouldCircle" + range;
                got = x.wouldCircle(owner, start, length, type);
                want = model.wouldCircle(owner, start, length, type);
                break;
            case 19:
                call = "waiting(" + owner + ")";
                got = x.waiting(owner);
                want = model.waiting(owner);
                break;
            case 20:
                call = "waitsFor(" + owner + ")";
                got = x.waitsFor(owner);
                want = model.waitsFor(owner);
                break;
            case 21:
                call = "ahead(" + owner + ")";
                got = x.ahead(owner);
                want = model.ahead(owner);
                break;
            case 22:
                call = "pieces(" + owner + ")";
                got = x.pieces(owner);
                want = model.pieces(owner);
                break;
            case 23:
                call = "pieceStart(" + owner + ", " + piece + ")";
                got = x.pieceStart(owner, piece);
                want = model.pieceStart(owner, piece);
                break;
            case 24:
                call = "pieceEnd(" + owner + ", " + piece + ")";
                got = x.pieceEnd(owner, piece);
                want = model.pieceEnd(owner, piece);
                break;
            case 25:
                call = "pieceType(" + owner + ", " + piece + ")";
                got = x.pieceType(owner, piece);
                want = model.pieceType(owner, piece);
                break;
            case 26:
                call = "count(" + owner + ", " + type + ")";
                got = x.count(owner, type);
                want = model.count(owner, type);
                break;
            default:
                call = "free()";
                got = x.free();
                want = model.free();
                break;
        }
        due.is("run " + run + ": " + call, want, got);
    }
}
