/** Promises 3 and 9: await, and wouldCircle, which foretells its -5. */
public final class AwaitTest {
    private static final Due due = new Due();

    public static void main(String[] args) {
        grantsAtOnceWithoutConflict();
        grantingAtOnceSettles();
        waitsWithConflict();
        refusesCircleOfTwo();
        refusesCircleOfFive();
        seesEveryBranch();
        aWayThatMissesTheOwnerIsNoCircle();
        aCircleNeedsConflict();
        circlesChangeWithTheLocks();
        refusesInOrder();
        due.end();
    }

    /** Asks wouldCircle before the call, so that the two are held against each other everywhere. */
    private static void await(RecordLocks x, int owner, int start, int length, int type, int want) {
        String arguments = "(" + owner + ", " + start + ", " + length + ", " + type + ")";
        due.is("wouldCircle" + arguments, want == -5 ? 1 : 0, x.wouldCircle(owner, start, length, type));
        due.is("await" + arguments, want, x.await(owner, start, length, type));
    }

    private static void grantsAtOnceWithoutConflict() {
        RecordLocks x = new RecordLocks();
        await(x, 0, 0, 40, 1, 0);
        await(x, 4, 39, 1, 1, 0);
        due.is("waiting(4)", 0, x.waiting(4));
        due.is("lockAt(4, 39)", 1, x.lockAt(4, 39));
        due.is("lockAt(4, 38)", 0, x.lockAt(4, 38));
        due.is("count(0, 1)", 40, x.count(0, 1));
    }

    private static void grantingAtOnceSettles() {
        RecordLocks x = new RecordLocks();
        x.lock(0, 0, 10, 2);
        await(x, 1, 3, 2, 1, 1);
        await(x, 2, 4, 3, 1, 1);
        await(x, 0, 0, 10, 1, 0);
        due.is("waiting(1)", 0, x.waiting(1));
        due.is("waiting(2)", 0, x.waiting(2));
        due.is("holders(4)", 7, x.holders(4));
    }

    private static void waitsWithConflict() {
        RecordLocks x = new RecordLocks();
        x.lock(0, 10, 1, 1);
        x.lock(1, 0, 2, 2);
        await(x, 1, 10, 5, 2, 1);
        due.is("waiting(1)", 1, x.waiting(1));
        due.is("waitsFor(1)", 1, x.waitsFor(1));
        due.is("it keeps its locks", 2, x.count(1, 2));
        due.is("and has no new one", 0, x.lockAt(1, 12));
        due.is("others may lock what it waits for", 0, x.lock(2, 12, 1, 2));
        due.is("waitsFor(1)", 5, x.waitsFor(1));
        due.is("one of two gives way", 0, x.lock(0, 10, 1, 0));
        due.is("the other gives way", 1, x.lock(2, 12, 1, 0));
        due.is("count(1, 2)", 7, x.count(1, 2));
    }

    private static void refusesCircleOfTwo() {
        RecordLocks x = new RecordLocks();
        x.lock(0, 0, 1, 1);
        x.lock(1, 0, 1, 1);
        await(x, 0, 0, 1, 2, 1);
        await(x, 1, 0, 1, 2, -5);
        due.is("waiting(1)", 0, x.waiting(1));
        due.is("lockAt(1, 0)", 1, x.lockAt(1, 0));
        due.is("lock(1, 0, 1, 0)", 1, x.lock(1, 0, 1, 0));
        due.is("lockAt(0, 0)", 2, x.lockAt(0, 0));
    }

    private static void refusesCircleOfFive() {
        // Down and up, so that no order of going through the owners is favoured.
        for (int turn = 1; turn < 5; turn++) {
            RecordLocks x = new RecordLocks();
            for (int owner = 0; owner < 5; owner++) {
                x.lock(owner, owner, 1, 2);
            }
            int owner = 0;
            for (int step = 0; step < 4; step++) {
                int next = (owner + turn) % 5;
                await(x, owner, next, 1, 1, 1);
                owner = next;
            }
            await(x, owner, 0, 1, 1, -5);
            for (int other = 0; other < 5; other++) {
                due.is("circle with byte " + other, other == owner ? 0 : 1, x.wouldCircle(owner, other, 1, 2));
            }
        }
    }

    private static void seesEveryBranch() {
        RecordLocks x = new RecordLocks();
        x.lock(0, 0, 1, 2);
        x.lock(1, 1, 1, 2);
        x.lock(2, 2, 1, 2);
        x.lock(3, 3, 1, 2);
        // 3 waits for 1 and 2, of whom only 2 waits for 0.
        await(x, 3, 1, 2, 1, 1);
        await(x, 2, 0, 1, 1, 1);
        await(x, 0, 1, 3, 1, -5);
        await(x, 0, 2, 1, 1, -5);
        await(x, 0, 3, 1, 1, -5);
        await(x, 0, 1, 1, 1, 1);
        await(x, 1, 0, 1, 2, -5);
        await(x, 1, 2, 1, 2, -5);
        await(x, 1, 3, 1, 2, -5);
        await(x, 4, 0, 40, 2, 1);
    }

    private static void aWayThatMissesTheOwnerIsNoCircle() {
        RecordLocks x = new RecordLocks();
        x.lock(0, 0, 1, 2);
        x.lock(1, 1, 1, 2);
        await(x, 1, 0, 1, 2, 1);
        await(x, 2, 1, 1, 2, 1);
        await(x, 3, 0, 2, 2, 1);
        await(x, 4, 1, 1, 1, 1);
        due.is("ahead(4)", 3, x.ahead(4));
    }

    private static void aCircleNeedsConflict() {
        RecordLocks x = new RecordLocks();
        x.lock(0, 0, 10, 1);
        x.lock(1, 0, 10, 1);
        await(x, 1, 5, 1, 2, 1);
        // 1 waits for 0, but 0 can read without waiting for 1.
        await(x, 0, 0, 20, 1, 0);
        await(x, 0, 20, 20, 2, 0);
        due.is("lockAt(0, 39)", 2, x.lockAt(0, 39));
    }

    private static void circlesChangeWithTheLocks() {
        RecordLocks x = new RecordLocks();
        x.lock(0, 0, 1, 2);
        x.lock(1, 1, 1, 2);
        await(x, 0, 1, 2, 1, 1);
        due.is("lock(2, 2, 1, 2)", 0, x.lock(2, 2, 1, 2));
        // 0 has come to wait for 2 without any call of its own.
        await(x, 2, 0, 1, 1, -5);
        due.is("lock(2, 2, 1, 1)", 0, x.lock(2, 2, 1, 1));
        await(x, 2, 0, 1, 1, 1);
        due.is("cancel(0)", 0, x.cancel(0));
        await(x, 1, 0, 1, 1, 1);
        await(x, 0, 1, 1, 1, -5);
    }

    private static void refusesInOrder() {
        RecordLocks x = new RecordLocks();
        x.lock(0, 0, 1, 2);
        x.lock(1, 1, 1, 2);
        await(x, 1, 0, 1, 1, 1);
        await(x, -1, -1, 0, 3, -1);
        await(x, 5, 0, 1, 1, -1);
        await(x, 1, 0, 0, 3, -2);
        await(x, 0, 39, 2, 1, -2);
        await(x, 1, 0, 1, 0, -3);
        await(x, 1, 0, 1, 3, -3);
        await(x, 2, 0, 1, -1, -3);
        await(x, 1, 0, 1, 1, -4);
        await(x, 1, 5, 1, 1, -4);
        await(x, 0, 1, 1, 1, -5);
        await(x, 0, 0, 40, 2, -5);
        due.is("waiting(0)", 0, x.waiting(0));
        due.is("waitsFor(1)", 1, x.waitsFor(1));
    }
}
