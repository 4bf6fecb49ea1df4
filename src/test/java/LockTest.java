/** Promise 2: lock. */
public final class LockTest {
    private static final Due due = new Due();

    public static void main(String[] args) {
        due.sentence("The owner has locks of the type on all bytes of the range afterwards", LockTest::setsTheRange);
        due.sentence("or none, for NONE", LockTest::noneTakesLocksAway);
        due.sentence("if that is possible at once", LockTest::beginsNoWaiting);
        due.sentence("-1 if owner is not good", LockTest::ownerNotGood);
        due.sentence("-2 if the range is not good", LockTest::rangeNotGood);
        due.sentence("-3 if type is not in 0 .. 2", LockTest::typeNotGood);
        due.sentence("-4 if the owner is waiting", LockTest::ownerWaiting);
        due.sentence("-4: until it waits no more", LockTest::ownerWaitsNoMore);
        due.sentence("-5 if the request conflicts with some owner", LockTest::conflict);
        due.sentence("-5 if the type is not NONE", LockTest::noneNeverConflicts);
        due.sentence("otherwise answers how many requests settling granted", LockTest::answersWhatSettlingGranted);
        due.sentence("a READ lock in place of a WRITE lock, then settling", LockTest::fromWriteToReadSettles);
        due.end();
    }

    private static void refused(int want, int owner, int start, int length, int type) {
        due.unchanged(Due.call("lock", owner, start, length, type), want, x -> x.lock(owner, start, length, type));
    }

    private static void setsTheRange() {
        for (int[] range : Edges.GOOD_RANGES) {
            for (int type = 1; type <= 2; type++) {
                RecordLocks x = new RecordLocks();
                String call = Due.call("lock", 3, range[0], range[1], type);
                due.is(call, 0, x.lock(3, range[0], range[1], type));
                for (int at = 0; at < 40; at++) {
                    boolean inside = at >= range[0] && at < range[0] + range[1];
                    due.is(call + ", lockAt(3, " + at + ")", inside ? type : 0, x.lockAt(3, at));
                    due.is(call + ", holders(" + at + ")", inside ? 8 : 0, x.holders(at));
                }
            }
        }
    }

    private static void noneTakesLocksAway() {
        RecordLocks x = new RecordLocks();
        due.is("lock(1, 0, 40, 0) without any lock", 0, x.lock(1, 0, 40, 0));
        due.is("free()", 40, x.free());
        x.lock(1, 0, 20, 2);
        x.lock(1, 20, 20, 1);
        due.is("lock(1, 1, 38, 0)", 0, x.lock(1, 1, 38, 0));
        due.is("free()", 38, x.free());
        due.is("lockAt(1, 0)", 2, x.lockAt(1, 0));
        due.is("lockAt(1, 39)", 1, x.lockAt(1, 39));
        due.is("lock(1, 0, 40, 0)", 0, x.lock(1, 0, 40, 0));
        due.is("free()", 40, x.free());
    }

    private static void beginsNoWaiting() {
        RecordLocks x = new RecordLocks();
        x.lock(0, 0, 1, 2);
        due.is("lock(1, 0, 2, 1)", -5, x.lock(1, 0, 2, 1));
        due.is("waiting(1)", 0, x.waiting(1));
        due.is("lock(0, 0, 1, 0) grants nothing", 0, x.lock(0, 0, 1, 0));
        due.is("free()", 40, x.free());
    }

    private static void ownerNotGood() {
        for (int owner : Edges.BAD_OWNERS) {
            refused(-1, owner, 30, 1, 1);
            refused(-1, owner, 0, 0, 1);
            refused(-1, owner, 30, 1, 3);
            refused(-1, owner, 0, 1, 2);
        }
        for (int owner = 0; owner < 5; owner++) {
            due.is(Due.call("lock", owner, 30, 1, 1), 0, new RecordLocks().lock(owner, 30, 1, 1));
        }
    }

    private static void rangeNotGood() {
        for (int[] range : Edges.BAD_RANGES) {
            for (int type = -1; type <= 3; type++) {
                refused(-2, 3, range[0], range[1], type);
            }
            refused(-2, 1, range[0], range[1], 1);
        }
    }

    private static void typeNotGood() {
        for (int type : Edges.BAD_TYPES) {
            refused(-3, 3, 30, 1, type);
            refused(-3, 3, 0, 40, type);
            refused(-3, 1, 30, 1, type);
        }
        for (int type = 0; type <= 2; type++) {
            due.is(Due.call("lock", 3, 30, 1, type), 0, Crowd.made().lock(3, 30, 1, type));
        }
    }

    private static void ownerWaiting() {
        for (int type = 0; type <= 2; type++) {
            refused(-4, 1, 30, 1, type);
            refused(-4, 2, 0, 40, type);
        }
        refused(-4, 1, 5, 10, 1);
        refused(-4, 1, 39, 1, 2);
        refused(-4, 1, 39, 1, 0);
    }

    private static void ownerWaitsNoMore() {
        RecordLocks x = Crowd.made();
        x.cancel(2);
        due.is("lock(2, 30, 1, 2) after cancel", 0, x.lock(2, 30, 1, 2));
        x.close(0);
        due.is("lock(1, 31, 1, 2) after its grant", 0, x.lock(1, 31, 1, 2));
        x = Crowd.made();
        x.close(1);
        due.is("lock(1, 31, 1, 2) after close", 0, x.lock(1, 31, 1, 2));
    }

    private static void conflict() {
        refused(-5, 3, 9, 1, 1);
        refused(-5, 4, 0, 1, 2);
        // The last byte of the range, or the first, is enough.
        refused(-5, 0, 0, 11, 2);
        refused(-5, 3, 9, 31, 1);
        refused(-5, 3, 19, 10, 2);
        // So is one of several owners, and a lock of an owner that waits.
        refused(-5, 3, 0, 40, 1);
        refused(-5, 4, 39, 1, 1);
        refused(-5, 0, 29, 1, 2);

        RecordLocks x = Crowd.made();
        due.is("its own locks are no conflict", 0, x.lock(3, 20, 10, 2));
        due.is("next to others' locks", 0, x.lock(4, 30, 9, 2));
        due.is("READ beside READ", 0, x.lock(0, 10, 10, 1));
        x = new RecordLocks();
        x.lock(0, 0, 2, 2);
        x.await(1, 0, 40, 2);
        due.is("a request that waits is no lock", 0, x.lock(2, 2, 38, 2));
    }

    private static void noneNeverConflicts() {
        RecordLocks x = new RecordLocks();
        x.lock(1, 0, 40, 2);
        due.is("lock(0, 0, 40, 0) where another writes", 0, x.lock(0, 0, 40, 0));
        due.is("the other's locks stay", 40, x.count(1, 2));
    }

    private static void answersWhatSettlingGranted() {
        RecordLocks x = new RecordLocks();
        x.lock(0, 0, 40, 2);
        due.is("lock(0, 30, 10, 0) when nobody waits", 0, x.lock(0, 30, 10, 0));
        for (int owner = 1; owner < 5; owner++) {
            due.is("await(" + owner + ", " + owner + ", 1, 2)", 1, x.await(owner, owner, 1, 2));
        }
        due.is("lock(0, 20, 20, 0) frees nobody", 0, x.lock(0, 20, 20, 0));
        due.is("lock(0, 1, 1, 0) frees one", 1, x.lock(0, 1, 1, 0));
        due.is("lock(0, 2, 3, 1) frees nobody that writes", 0, x.lock(0, 2, 3, 1));
        due.is("lock(0, 0, 40, 0) frees three", 3, x.lock(0, 0, 40, 0));
        for (int owner = 1; owner < 5; owner++) {
            due.is("lockAt(" + owner + ", " + owner + ")", 2, x.lockAt(owner, owner));
        }
        due.is("lock(0, 0, 1, 1)", 0, x.lock(0, 0, 1, 1));

        for (int waiting = 0; waiting < 5; waiting++) {
            x = new RecordLocks();
            x.lock(0, 0, 40, 2);
            for (int owner = 1; owner <= waiting; owner++) {
                x.await(owner, 0, 40, 1);
            }
            due.is("lock(0, 0, 40, 0) with " + waiting + " waiting", waiting, x.lock(0, 0, 40, 0));
        }
    }

    private static void fromWriteToReadSettles() {
        RecordLocks x = new RecordLocks();
        x.lock(0, 0, 40, 2);
        for (int owner = 1; owner < 5; owner++) {
            x.await(owner, 0, 40, 1);
        }
        due.is("lock(0, 0, 39, 1) leaves one byte", 0, x.lock(0, 0, 39, 1));
        due.is("lock(0, 39, 1, 1) frees four readers", 4, x.lock(0, 39, 1, 1));
        due.is("holders(39)", 31, x.holders(39));
    }
}
