/** Promise 3: await. */
public final class AwaitTest {
    private static final Due due = new Due();

    public static void main(String[] args) {
        due.sentence("-1 if owner is not good", AwaitTest::ownerNotGood);
        due.sentence("-2 if the range is not good", AwaitTest::rangeNotGood);
        due.sentence("-3 if type is not 1 or 2", AwaitTest::typeNotGood);
        due.sentence("-4 if the owner is waiting", AwaitTest::ownerWaiting);
        due.sentence("-4: until it waits no more", AwaitTest::ownerWaitsNoMore);
        due.sentence("-5 if waiting would close a circle", AwaitTest::refusesCircleOfTwo);
        due.sentence("-5: going one or more times", AwaitTest::refusesCirclesOfTwoToFive);
        due.sentence("-5: from some owner with whom it conflicts", AwaitTest::seesEveryBranch);
        due.sentence("-5: one gets to this owner", AwaitTest::aWayThatMissesTheOwnerIsNoCircle);
        due.sentence("-5 if the request conflicts with some owner", AwaitTest::aCircleNeedsConflict);
        due.sentence("-5: from waiting owners to those they wait for", AwaitTest::circlesChangeWithTheLocks);
        due.sentence("-5: when all the others wait", AwaitTest::theLastOneMayNotWait);
        due.sentence("1 if the owner begins to wait", AwaitTest::waitsWithConflict);
        due.sentence("0 if the request was granted at once", AwaitTest::grantsAtOnceWithoutConflict);
        due.sentence("0 (then settling)", AwaitTest::grantingAtOnceSettles);
        due.end();
    }

    /** Asks wouldCircle before the call, so that the two are held against each other everywhere. */
    private static void await(RecordLocks x, int owner, int start, int length, int type, int want) {
        String arguments = Due.call("", owner, start, length, type);
        due.is("wouldCircle" + arguments, want == -5 ? 1 : 0, x.wouldCircle(owner, start, length, type));
        due.is("await" + arguments, want, x.await(owner, start, length, type));
    }

    private static void refused(int want, int owner, int start, int length, int type) {
        due.unchanged(Due.call("await", owner, start, length, type), want, x -> x.await(owner, start, length, type));
    }

    private static void ownerNotGood() {
        for (int owner : Edges.BAD_OWNERS) {
            refused(-1, owner, 30, 1, 1);
            refused(-1, owner, 0, 0, 1);
            refused(-1, owner, 30, 1, 0);
            refused(-1, owner, 0, 1, 2);
        }
        for (int owner = 0; owner < 5; owner++) {
            due.is(Due.call("await", owner, 30, 1, 1), 0, new RecordLocks().await(owner, 30, 1, 1));
        }
    }

    private static void rangeNotGood() {
        for (int[] range : Edges.BAD_RANGES) {
            for (int type = -1; type <= 3; type++) {
                refused(-2, 3, range[0], range[1], type);
            }
            refused(-2, 1, range[0], range[1], 1);
        }
    }

    private static void typeNotGood() {
        typeRefused(0);
        for (int type : Edges.BAD_TYPES) {
            typeRefused(type);
        }
        for (int type = 1; type <= 2; type++) {
            due.is(Due.call("await", 3, 30, 1, type), 0, Crowd.made().await(3, 30, 1, type));
            due.is(Due.call("await", 3, 0, 1, type), 1, Crowd.made().await(3, 0, 1, type));
        }
    }

    /** Of an owner that could be granted, that could wait, that waits, and that would close a circle. */
    private static void typeRefused(int type) {
        refused(-3, 3, 30, 1, type);
        refused(-3, 3, 0, 1, type);
        refused(-3, 1, 30, 1, type);
        refused(-3, 0, 10, 1, type);
    }

    private static void ownerWaiting() {
        for (int type = 1; type <= 2; type++) {
            refused(-4, 1, 30, 1, type);
            refused(-4, 2, 0, 40, type);
            // 2 waits for 1, so that this would close a circle, were 1 not waiting.
            refused(-4, 1, 10, 1, type);
        }
        refused(-4, 1, 5, 10, 1);
        refused(-4, 2, 9, 2, 2);
    }

    private static void ownerWaitsNoMore() {
        RecordLocks x = Crowd.made();
        x.cancel(2);
        due.is("await(2, 0, 1, 1) after cancel", 1, x.await(2, 0, 1, 1));
        x.close(0);
        due.is("await(2, 39, 1, 2) after its grant", 1, x.await(2, 39, 1, 2));
        x.close(2);
        due.is("await(2, 39, 1, 1) after close", 1, x.await(2, 39, 1, 1));
    }

    private static void refusesCircleOfTwo() {
        refused(-5, 0, 10, 1, 2);
        refused(-5, 0, 39, 1, 1);
        refused(-5, 0, 0, 40, 2);
        RecordLocks x = new RecordLocks();
        x.lock(0, 0, 1, 1);
        x.lock(1, 0, 1, 1);
        await(x, 0, 0, 1, 2, 1);
        await(x, 1, 0, 1, 2, -5);
        due.is("waiting(1)", 0, x.waiting(1));
        due.is("lockAt(1, 0)", 1, x.lockAt(1, 0));
        due.is("lock(1, 0, 1, 0)", 1, x.lock(1, 0, 1, 0));
        due.is("lockAt(0, 0)", 2, x.lockAt(0, 0));
    }

    private static void refusesCirclesOfTwoToFive() {
        // Each turn goes through the owners in another order, so that none is favoured.
        for (int turn = 1; turn < 5; turn++) {
            for (int steps = 1; steps < 5; steps++) {
                RecordLocks x = new RecordLocks();
                for (int owner = 0; owner < 5; owner++) {
                    x.lock(owner, owner, 1, 2);
                }
                int owner = 0;
                int met = 1;
                for (int step = 0; step < steps; step++) {
                    int next = (owner + turn) % 5;
                    await(x, owner, next, 1, 1, 1);
                    owner = next;
                    met |= 1 << owner;
                }
                for (int other = 0; other < 5; other++) {
                    boolean closes = other != owner && (met >> other & 1) == 1;
                    due.is("circle with byte " + other, closes ? 1 : 0, x.wouldCircle(owner, other, 1, 2));
                }
                await(x, owner, 0, 1, 1, -5);
            }
        }
    }

    private static void seesEveryBranch() {
        RecordLocks x = new RecordLocks();
        x.lock(0, 0, 1, 2);
        x.lock(1, 1, 1, 2);
        x.lock(2, 2, 1, 2);
        x.lock(3, 3, 1, 2);
        // 3 waits for 1 and 2, of whom only 2 waits for 0.
        await(x, 3, 1, 2, 1, 1);
        await(x, 2, 0, 1, 1, 1);
        await(x, 0, 1, 3, 1, -5);
        await(x, 0, 2, 1, 1, -5);
        await(x, 0, 3, 1, 1, -5);
        await(x, 0, 1, 1, 1, 1);
        await(x, 1, 0, 1, 2, -5);
        await(x, 1, 2, 1, 2, -5);
        await(x, 1, 3, 1, 2, -5);
        await(x, 4, 0, 40, 2, 1);
    }

    private static void aWayThatMissesTheOwnerIsNoCircle() {
        RecordLocks x = new RecordLocks();
        x.lock(0, 0, 1, 2);
        x.lock(1, 1, 1, 2);
        await(x, 1, 0, 1, 2, 1);
        await(x, 2, 1, 1, 2, 1);
        await(x, 3, 0, 2, 2, 1);
        await(x, 4, 1, 1, 1, 1);
        due.is("ahead(4)", 3, x.ahead(4));
    }

    private static void aCircleNeedsConflict() {
        RecordLocks x = new RecordLocks();
        x.lock(0, 0, 10, 1);
        x.lock(1, 0, 10, 1);
        await(x, 1, 5, 1, 2, 1);
        // 1 waits for 0, but 0 can read without waiting for 1.
        await(x, 0, 0, 20, 1, 0);
        await(x, 0, 20, 20, 2, 0);
        due.is("lockAt(0, 39)", 2, x.lockAt(0, 39));
    }

    private static void circlesChangeWithTheLocks() {
        RecordLocks x = new RecordLocks();
        x.lock(0, 0, 1, 2);
        x.lock(1, 1, 1, 2);
        await(x, 0, 1, 2, 1, 1);
        due.is("lock(2, 2, 1, 2)", 0, x.lock(2, 2, 1, 2));
        // 0 has come to wait for 2 without any call of its own.
        await(x, 2, 0, 1, 1, -5);
        due.is("lock(2, 2, 1, 1)", 0, x.lock(2, 2, 1, 1));
        await(x, 2, 0, 1, 1, 1);
        due.is("cancel(0)", 0, x.cancel(0));
        await(x, 1, 0, 1, 1, 1);
        await(x, 0, 1, 1, 1, -5);
    }

    private static void theLastOneMayNotWait() {
        for (int last = 0; last < 5; last++) {
            RecordLocks x = new RecordLocks();
            for (int owner = 0; owner < 5; owner++) {
                x.lock(owner, owner, 1, 2);
            }
            for (int step = 1; step < 5; step++) {
                await(x, (last + step) % 5, last, 1, 2, 1);
            }
            for (int at = 0; at < 5; at++) {
                await(x, last, at, 1, 1, at == last ? 0 : -5);
            }
            due.is("waiting(" + last + ")", 0, x.waiting(last));
        }
    }

    private static void waitsWithConflict() {
        RecordLocks x = new RecordLocks();
        x.lock(0, 10, 1, 1);
        x.lock(1, 0, 2, 2);
        await(x, 1, 10, 5, 2, 1);
        due.is("waiting(1)", 1, x.waiting(1));
        due.is("waitsFor(1)", 1, x.waitsFor(1));
        due.is("it keeps its locks", 2, x.count(1, 2));
        due.is("and has no new one", 0, x.lockAt(1, 12));
        due.is("others may lock what it waits for", 0, x.lock(2, 12, 1, 2));
        due.is("waitsFor(1)", 5, x.waitsFor(1));
        due.is("one of two gives way", 0, x.lock(0, 10, 1, 0));
        due.is("the other gives way", 1, x.lock(2, 12, 1, 0));
        due.is("count(1, 2)", 7, x.count(1, 2));
    }

    private static void grantsAtOnceWithoutConflict() {
        RecordLocks x = new RecordLocks();
        await(x, 0, 0, 40, 1, 0);
        await(x, 4, 39, 1, 1, 0);
        due.is("waiting(4)", 0, x.waiting(4));
        due.is("lockAt(4, 39)", 1, x.lockAt(4, 39));
        due.is("lockAt(4, 38)", 0, x.lockAt(4, 38));
        due.is("count(0, 1)", 40, x.count(0, 1));
        await(x, 0, 0, 39, 2, 0);
        await(x, 0, 0, 39, 2, 0);
        due.is("count(0, 2)", 39, x.count(0, 2));
    }

    private static void grantingAtOnceSettles() {
        RecordLocks x = new RecordLocks();
        x.lock(0, 0, 10, 2);
        await(x, 1, 3, 2, 1, 1);
        await(x, 2, 4, 3, 1, 1);
        await(x, 0, 0, 10, 1, 0);
        due.is("waiting(1)", 0, x.waiting(1));
        due.is("waiting(2)", 0, x.waiting(2));
        due.is("holders(4)", 7, x.holders(4));
    }
}
