/** Promise 2: lock. */
public final class LockTest {
    private static final Due due = new Due();

    public static void main(String[] args) {
        setsTheRangeAndNothingElse();
        takesAnyGoodRange();
        readLocksStandTogether();
        writeLocksStandAlone();
        ownLocksAreReplaced();
        noneNeverConflicts();
        answersWhatSettlingGranted();
        refusesInOrder();
        due.end();
    }

    private static void setsTheRangeAndNothingElse() {
        RecordLocks x = new RecordLocks();
        due.is("lock(3, 7, 4, 2)", 0, x.lock(3, 7, 4, 2));
        for (int at = 0; at < 40; at++) {
            due.is("lockAt(3, " + at + ")", at >= 7 && at <= 10 ? 2 : 0, x.lockAt(3, at));
            due.is("lockAt(2, " + at + ")", 0, x.lockAt(2, at));
            due.is("lockAt(4, " + at + ")", 0, x.lockAt(4, at));
        }
    }

    private static void takesAnyGoodRange() {
        for (int start = -2; start <= 42; start++) {
            for (int length = -2; length <= 43; length++) {
                RecordLocks x = new RecordLocks();
                boolean good = length >= 1 && length <= 40 && start >= 0 && start + length <= 40;
                String call = "lock(4, " + start + ", " + length + ", 1)";
                due.is(call, good ? 0 : -2, x.lock(4, start, length, 1));
                due.is("count(4, 1) after " + call, good ? length : 0, x.count(4, 1));
                if (good) {
                    due.is("first byte after " + call, start, x.pieceStart(4, 0));
                }
            }
        }
    }

    private static void readLocksStandTogether() {
        RecordLocks x = new RecordLocks();
        for (int owner = 0; owner < 5; owner++) {
            due.is("lock(" + owner + ", 0, 40, 1)", 0, x.lock(owner, 0, 40, 1));
        }
        due.is("holders(20)", 31, x.holders(20));
        for (int owner = 0; owner < 5; owner++) {
            due.is("lock(" + owner + ", 20, 1, 2) among readers", -5, x.lock(owner, 20, 1, 2));
            due.is("lockAt(" + owner + ", 20) stays", 1, x.lockAt(owner, 20));
        }
    }

    private static void writeLocksStandAlone() {
        RecordLocks x = new RecordLocks();
        due.is("lock(1, 10, 5, 2)", 0, x.lock(1, 10, 5, 2));
        due.is("read its first byte", -5, x.lock(0, 0, 11, 1));
        due.is("read its last byte", -5, x.lock(2, 14, 20, 1));
        due.is("write its last byte", -5, x.lock(2, 14, 20, 2));
        due.is("write around it", -5, x.lock(4, 0, 40, 2));
        due.is("a refused call gives no lock", 35, x.free());
        due.is("write up to it", 0, x.lock(0, 0, 10, 2));
        due.is("write from behind it", 0, x.lock(2, 15, 25, 2));
        due.is("free()", 0, x.free());
    }

    private static void ownLocksAreReplaced() {
        RecordLocks x = new RecordLocks();
        due.is("lock(2, 5, 10, 2)", 0, x.lock(2, 5, 10, 2));
        due.is("from WRITE to READ", 0, x.lock(2, 8, 2, 1));
        due.is("lockAt(2, 7)", 2, x.lockAt(2, 7));
        due.is("lockAt(2, 8)", 1, x.lockAt(2, 8));
        due.is("lockAt(2, 9)", 1, x.lockAt(2, 9));
        due.is("lockAt(2, 10)", 2, x.lockAt(2, 10));
        due.is("now another may read there", 0, x.lock(0, 8, 2, 1));
        due.is("and no way back to WRITE", -5, x.lock(2, 9, 1, 2));
        due.is("the other gives it back", 0, x.lock(0, 8, 2, 0));
        due.is("from READ to WRITE", 0, x.lock(2, 9, 1, 2));
        due.is("lockAt(2, 9)", 2, x.lockAt(2, 9));
    }

    private static void noneNeverConflicts() {
        RecordLocks x = new RecordLocks();
        due.is("lock(1, 0, 40, 2)", 0, x.lock(1, 0, 40, 2));
        due.is("lock(0, 0, 40, 0) where another writes", 0, x.lock(0, 0, 40, 0));
        due.is("the other's locks stay", 40, x.count(1, 2));
        due.is("lock(1, 1, 38, 0)", 0, x.lock(1, 1, 38, 0));
        due.is("free()", 38, x.free());
        due.is("lockAt(1, 0)", 2, x.lockAt(1, 0));
        due.is("lockAt(1, 39)", 2, x.lockAt(1, 39));
    }

    private static void answersWhatSettlingGranted() {
        RecordLocks x = new RecordLocks();
        x.lock(0, 0, 40, 2);
        for (int owner = 1; owner < 5; owner++) {
            due.is("await(" + owner + ", " + owner + ", 1, 2)", 1, x.await(owner, owner, 1, 2));
        }
        due.is("lock(0, 20, 20, 0) frees nobody", 0, x.lock(0, 20, 20, 0));
        due.is("lock(0, 1, 1, 0) frees one", 1, x.lock(0, 1, 1, 0));
        due.is("lock(0, 2, 3, 1) frees nobody that writes", 0, x.lock(0, 2, 3, 1));
        due.is("lock(0, 0, 40, 0) frees three", 3, x.lock(0, 0, 40, 0));
        for (int owner = 1; owner < 5; owner++) {
            due.is("lockAt(" + owner + ", " + owner + ")", 2, x.lockAt(owner, owner));
        }
        due.is("lock(0, 0, 1, 1)", 0, x.lock(0, 0, 1, 1));

        x = new RecordLocks();
        x.lock(0, 0, 40, 2);
        for (int owner = 1; owner < 5; owner++) {
            x.await(owner, 0, 40, 1);
        }
        due.is("from WRITE to READ frees four readers", 4, x.lock(0, 0, 40, 1));
        due.is("holders(39)", 31, x.holders(39));
    }

    private static void refusesInOrder() {
        RecordLocks x = new RecordLocks();
        x.lock(0, 0, 1, 2);
        x.await(1, 0, 1, 1);
        due.is("all wrong", -1, x.lock(-1, -1, 0, 3));
        due.is("owner 5", -1, x.lock(5, 0, 1, 1));
        due.is("range before type", -2, x.lock(1, 0, 0, 3));
        due.is("type before waiting", -3, x.lock(1, 0, 1, 3));
        due.is("type -1", -3, x.lock(0, 0, 1, -1));
        due.is("waiting before conflict", -4, x.lock(1, 0, 1, 1));
        due.is("waiting, without conflict", -4, x.lock(1, 1, 1, 1));
        due.is("waiting, with NONE", -4, x.lock(1, 1, 1, 0));
        due.is("conflict", -5, x.lock(2, 0, 40, 1));
    }
}
