import java.util.LinkedHashMap;
import java.util.Map;

/** The sentences of 'What it is' and 'Terms', each at its edges; settling has SettlingTest. */
public final class TermsTest {
    private static final Due due = new Due();

    private interface OwnersCall {
        int of(RecordLocks x, int owner);
    }

    private interface RangesCall {
        int of(RecordLocks x, int start, int length);
    }

    public static void main(String[] args) {
        due.sentence("an owner is good if it is 0 .. 4", TermsTest::goodOwners);
        due.sentence("a byte is good if it is 0 .. 39", TermsTest::goodBytes);
        due.sentence("a range is good if length is in 1 .. 40 ..", TermsTest::goodRanges);
        due.sentence(".. and start + length <= 40, without wrapping around", TermsTest::rangesThatWrapAround);
        due.sentence("locks CONFLICT if at least one of them is a WRITE lock", TermsTest::conflicts);
        due.sentence("locks of two different owners", TermsTest::ownLocksDoNotConflict);
        due.sentence("on the same byte", TermsTest::otherBytesDoNotConflict);
        due.sentence("no two locks ever conflict", TermsTest::noTwoLocksEverConflict);
        due.sentence("CONFLICTS if it has a lock on some byte of the range", TermsTest::someByteOfTheRange);
        due.sentence("GRANTING: on all bytes, in place of what it had there", TermsTest::grantsReplace);
        due.sentence("WAITING with one request", TermsTest::oneRequest);
        due.sentence("While it waits it keeps its locks", TermsTest::keepsItsLocks);
        due.sentence("WAITS FOR all owners with whom its request conflicts", TermsTest::waitsForAll);
        due.sentence("An object is used for at most 512 calls", TermsTest::theLastCall);
        due.end();
    }

    private static Map<String, OwnersCall> callsWithAnOwner() {
        Map<String, OwnersCall> calls = new LinkedHashMap<>();
        calls.put("lock(?, 0, 1, 1)", (x, owner) -> x.lock(owner, 0, 1, 1));
        calls.put("await(?, 0, 1, 1)", (x, owner) -> x.await(owner, 0, 1, 1));
        calls.put("cancel(?)", (x, owner) -> x.cancel(owner));
        calls.put("close(?)", (x, owner) -> x.close(owner));
        calls.put("lockAt(?, 0)", (x, owner) -> x.lockAt(owner, 0));
        calls.put("obstacle(?, 0, 1, 1)", (x, owner) -> x.obstacle(owner, 0, 1, 1));
        calls.put("waiting(?)", (x, owner) -> x.waiting(owner));
        calls.put("waitsFor(?)", (x, owner) -> x.waitsFor(owner));
        calls.put("ahead(?)", (x, owner) -> x.ahead(owner));
        calls.put("pieces(?)", (x, owner) -> x.pieces(owner));
        calls.put("pieceStart(?, 0)", (x, owner) -> x.pieceStart(owner, 0));
        calls.put("pieceEnd(?, 0)", (x, owner) -> x.pieceEnd(owner, 0));
        calls.put("pieceType(?, 0)", (x, owner) -> x.pieceType(owner, 0));
        calls.put("count(?, 0)", (x, owner) -> x.count(owner, 0));
        return calls;
    }

    private static void goodOwners() {
        callsWithAnOwner().forEach((call, made) -> {
            for (int owner : Edges.BAD_OWNERS) {
                due.unchanged(call + " of " + owner, -1, x -> made.of(x, owner));
            }
            for (int owner = 0; owner < 5; owner++) {
                due.is(call + " of " + owner + " is -1", false, made.of(new RecordLocks(), owner) == -1);
            }
        });
    }

    private static void goodBytes() {
        for (int at : Edges.BAD_BYTES) {
            due.unchanged(Due.call("lockAt", 0, at), -2, x -> x.lockAt(0, at));
            due.unchanged(Due.call("holders", at), -1, x -> x.holders(at));
        }
        RecordLocks x = new RecordLocks();
        x.lock(2, 0, 40, 1);
        for (int at = 0; at < 40; at++) {
            due.is(Due.call("lockAt", 2, at), 1, x.lockAt(2, at));
            due.is(Due.call("holders", at), 4, x.holders(at));
        }
    }

    private static Map<String, RangesCall> callsWithARange() {
        Map<String, RangesCall> calls = new LinkedHashMap<>();
        calls.put("lock", (x, start, length) -> x.lock(4, start, length, 1));
        calls.put("await", (x, start, length) -> x.await(4, start, length, 1));
        calls.put("obstacle", (x, start, length) -> x.obstacle(4, start, length, 1));
        return calls;
    }

    private static void goodRanges() {
        callsWithARange().forEach((name, made) -> {
            for (int start = -42; start <= 42; start++) {
                for (int length = -2; length <= 82; length++) {
                    boolean good = length >= 1 && length <= 40 && start >= 0 && start + length <= 40;
                    String call = Due.call(name, 4, start, length, 1);
                    RecordLocks x = new RecordLocks();
                    due.is(call + " is -2", !good, made.of(x, start, length) == -2);
                    boolean grants = good && !name.equals("obstacle");
                    due.is("count(4, 1) after " + call, grants ? length : 0, x.count(4, 1));
                }
            }
        });
    }

    private static void rangesThatWrapAround() {
        callsWithARange().forEach((name, made) -> {
            for (int[] range : Edges.BAD_RANGES) {
                String call = Due.call(name, 4, range[0], range[1], 1);
                due.unchanged(call, -2, x -> made.of(x, range[0], range[1]));
            }
        });
    }

    private static void conflicts() {
        for (int held = 0; held <= 2; held++) {
            for (int type = 1; type <= 2; type++) {
                boolean conflict = held != 0 && (held == 2 || type == 2);
                for (int pair = 0; pair < 25; pair++) {
                    if (pair / 5 != pair % 5) {
                        onePair(conflict, pair / 5, held, pair % 5, type);
                    }
                }
            }
        }
    }

    private static void onePair(boolean conflict, int holder, int held, int owner, int type) {
        for (int at : new int[] {0, 17, 39}) {
            RecordLocks x = new RecordLocks();
            x.lock(holder, at, 1, held);
            String call = Due.call("lock", owner, at, 1, type) + " against " + held + " of " + holder;
            due.is(call, conflict ? -5 : 0, x.lock(owner, at, 1, type));
        }
    }

    private static void ownLocksDoNotConflict() {
        for (int owner = 0; owner < 5; owner++) {
            for (int code = 0; code < 9; code++) {
                RecordLocks x = new RecordLocks();
                x.lock(owner, 0, 40, code / 3);
                due.is(Due.call("lock", owner, 0, 40, code % 3), 0, x.lock(owner, 0, 40, code % 3));
                due.is(Due.call("count", owner, code % 3), 40, x.count(owner, code % 3));
            }
        }
    }

    private static void otherBytesDoNotConflict() {
        RecordLocks x = new RecordLocks();
        for (int at = 0; at < 40; at++) {
            due.is(Due.call("lock", at % 5, at, 1, 2), 0, x.lock(at % 5, at, 1, 2));
        }
        due.is("free()", 0, x.free());
    }

    private static void noTwoLocksEverConflict() {
        // Two bytes in play make many waits, grants and refusals.
        for (int seed = 1; seed <= 400; seed++) {
            RecordLocks x = new RecordLocks();
            int dice = seed;
            for (int turn = 0; turn < 40; turn++) {
                dice = dice * 1103515245 + 12345;
                int roll = dice >>> 16;
                int start = roll / 20 % 2;
                int length = start == 1 ? 1 : 1 + roll / 40 % 2;
                String call = oneOf(x, roll % 4, roll / 4 % 5, start, length, roll / 80 % 3);
                noConflictOn(0, x, "seed " + seed + ", turn " + turn + ", " + call);
                noConflictOn(1, x, "seed " + seed + ", turn " + turn + ", " + call);
            }
        }
    }

    private static String oneOf(RecordLocks x, int kind, int owner, int start, int length, int type) {
        switch (kind) {
            case 0:
                x.lock(owner, start, length, type);
                return Due.call("lock", owner, start, length, type);
            case 1:
                x.close(owner);
                return Due.call("close", owner);
            default:
                x.await(owner, start, length, type);
                return Due.call("await", owner, start, length, type);
        }
    }

    private static void noConflictOn(int at, RecordLocks x, String call) {
        int readers = 0;
        int writers = 0;
        for (int owner = 0; owner < 5; owner++) {
            int held = x.lockAt(owner, at);
            readers += held == 1 ? 1 : 0;
            writers += held == 2 ? 1 : 0;
        }
        boolean conflict = writers > 1 || writers == 1 && readers > 0;
        due.is(call + ": conflict on byte " + at, false, conflict);
    }

    private static void someByteOfTheRange() {
        for (int at = 0; at < 40; at++) {
            for (int[] range : Edges.GOOD_RANGES) {
                RecordLocks x = new RecordLocks();
                x.lock(1, at, 1, 2);
                boolean inside = at >= range[0] && at < range[0] + range[1];
                String call = Due.call("await", 0, range[0], range[1], 1) + " with WRITE on byte " + at;
                due.is(call, inside ? 1 : 0, x.await(0, range[0], range[1], 1));
            }
        }
    }

    private static void grantsReplace() {
        RecordLocks x = new RecordLocks();
        x.lock(0, 5, 10, 2);
        x.lock(0, 20, 5, 1);
        x.lock(0, 12, 10, 1);
        told(x, "by lock", "0000022222221111111111111000000000000000");
        x.await(0, 0, 8, 1);
        told(x, "by await", "1111111122221111111111111000000000000000");
        x.lock(1, 39, 1, 2);
        x.await(0, 7, 33, 2);
        told(x, "not while it waits", "1111111122221111111111111000000000000000");
        x.close(1);
        told(x, "by settling", "1111111222222222222222222222222222222222");
    }

    private static void told(RecordLocks x, String how, String want) {
        StringBuilder got = new StringBuilder();
        for (int at = 0; at < 40; at++) {
            got.append(x.lockAt(0, at));
        }
        due.is("the locks of 0, granted " + how, want, got.toString());
    }

    private static void oneRequest() {
        RecordLocks x = new RecordLocks();
        x.lock(0, 0, 2, 2);
        x.lock(3, 2, 2, 2);
        due.is("await(1, 0, 1, 1)", 1, x.await(1, 0, 1, 1));
        due.is("await(1, 1, 1, 2), a second one", -4, x.await(1, 1, 1, 2));
        due.is("await(1, 2, 1, 2), of another owner's byte", -4, x.await(1, 2, 1, 2));
        due.is("waitsFor(1)", 1, x.waitsFor(1));
        due.is("lock(0, 0, 2, 0)", 1, x.lock(0, 0, 2, 0));
        due.is("lock(3, 2, 2, 0)", 0, x.lock(3, 2, 2, 0));
        due.is("count(1, 1)", 1, x.count(1, 1));
        due.is("count(1, 2)", 0, x.count(1, 2));
    }

    private static void keepsItsLocks() {
        RecordLocks x = new RecordLocks();
        x.lock(0, 0, 1, 2);
        x.lock(1, 10, 5, 2);
        x.lock(1, 20, 5, 1);
        x.await(1, 0, 30, 1);
        due.is("count(1, 2)", 5, x.count(1, 2));
        due.is("count(1, 1)", 5, x.count(1, 1));
        due.is("lock(2, 14, 1, 1) meets them", -5, x.lock(2, 14, 1, 1));
        due.is("obstacle(2, 1, 39, 1) is not what it waits for", 10, x.obstacle(2, 1, 39, 1));
        due.is("lock(2, 15, 5, 2)", 0, x.lock(2, 15, 5, 2));
    }

    private static void waitsForAll() {
        for (int set = 1; set < 16; set++) {
            RecordLocks x = new RecordLocks();
            for (int owner = 0; owner < 4; owner++) {
                x.lock(owner, 10 * owner, 1, (set >> owner & 1) == 1 ? 2 : 1);
            }
            due.is("await(4, 0, 40, 1)", 1, x.await(4, 0, 40, 1));
            due.is("a reader waits for the writers", set, x.waitsFor(4));
            x.cancel(4);
            due.is("await(4, 0, 40, 2)", 1, x.await(4, 0, 40, 2));
            due.is("a writer waits for all", 15, x.waitsFor(4));
        }
    }

    private static void theLastCall() {
        RecordLocks x = new RecordLocks();
        x.lock(0, 0, 1, 2);
        for (int call = 2; call < 511; call++) {
            int owner = 1 + call % 3;
            boolean waits = call % 2 == 0;
            due.is("call " + call, waits ? 1 : 0, waits ? x.await(owner, 0, 1, 2) : x.cancel(1 + (call - 1) % 3));
        }
        due.is("call 511", 1, x.await(4, 0, 1, 1));
        due.is("call 512", 1, x.lock(0, 0, 1, 1));
    }
}
