/** Promises 6, 7, 17 and 18: lockAt, holders, count and free. */
public final class ByteQuestionsTest {
    private static final Due due = new Due();

    public static void main(String[] args) {
        lockAtAndHolders();
        countAndFree();
        refusals();
        due.end();
    }

    private static void lockAtAndHolders() {
        RecordLocks x = new RecordLocks();
        x.lock(0, 0, 2, 1);
        x.lock(4, 1, 2, 1);
        x.lock(2, 39, 1, 2);
        due.is("lockAt(0, 0)", 1, x.lockAt(0, 0));
        due.is("lockAt(0, 1)", 1, x.lockAt(0, 1));
        due.is("lockAt(0, 2)", 0, x.lockAt(0, 2));
        due.is("lockAt(4, 0)", 0, x.lockAt(4, 0));
        due.is("lockAt(4, 2)", 1, x.lockAt(4, 2));
        due.is("lockAt(2, 39)", 2, x.lockAt(2, 39));
        due.is("lockAt(2, 38)", 0, x.lockAt(2, 38));
        // The byte before byte 0 of owner 3 is not byte 39 of owner 2.
        due.is("lockAt(3, 0)", 0, x.lockAt(3, 0));
        due.is("holders(0)", 1, x.holders(0));
        due.is("holders(1)", 17, x.holders(1));
        due.is("holders(2)", 16, x.holders(2));
        due.is("holders(3)", 0, x.holders(3));
        due.is("holders(39)", 4, x.holders(39));
        due.is("await(1, 39, 1, 1)", 1, x.await(1, 39, 1, 1));
        due.is("who waits holds nothing yet", 4, x.holders(39));
    }

    private static void countAndFree() {
        RecordLocks x = new RecordLocks();
        x.lock(0, 0, 10, 1);
        x.lock(1, 5, 10, 1);
        x.lock(0, 20, 3, 2);
        x.lock(0, 39, 1, 2);
        due.is("count(0, 0)", 26, x.count(0, 0));
        due.is("count(0, 1)", 10, x.count(0, 1));
        due.is("count(0, 2)", 4, x.count(0, 2));
        due.is("count(1, 0)", 30, x.count(1, 0));
        due.is("count(1, 1)", 10, x.count(1, 1));
        due.is("count(1, 2)", 0, x.count(1, 2));
        due.is("count(4, 0)", 40, x.count(4, 0));
        due.is("a byte with two locks counts once", 21, x.free());
        x.lock(0, 0, 10, 0);
        due.is("the other's locks remain", 26, x.free());
        x.lock(2, 0, 5, 1);
        x.lock(2, 15, 5, 1);
        x.lock(2, 23, 16, 2);
        due.is("free() with all bytes locked", 0, x.free());
    }

    private static void refusals() {
        RecordLocks x = new RecordLocks();
        x.lock(0, 0, 40, 1);
        int[] badOwners = {-1, 5, 6, Integer.MAX_VALUE, Integer.MIN_VALUE};
        int[] badBytes = {-1, 40, 41, Integer.MAX_VALUE, Integer.MIN_VALUE};
        int[] badTypes = {-1, 3, Integer.MAX_VALUE, Integer.MIN_VALUE};
        for (int owner : badOwners) {
            due.is("lockAt(" + owner + ", 0)", -1, x.lockAt(owner, 0));
            due.is("lockAt(" + owner + ", 40)", -1, x.lockAt(owner, 40));
            due.is("count(" + owner + ", 0)", -1, x.count(owner, 0));
            due.is("count(" + owner + ", 3)", -1, x.count(owner, 3));
        }
        for (int at : badBytes) {
            due.is("lockAt(0, " + at + ")", -2, x.lockAt(0, at));
            due.is("lockAt(4, " + at + ")", -2, x.lockAt(4, at));
            due.is("holders(" + at + ")", -1, x.holders(at));
        }
        for (int type : badTypes) {
            due.is("count(0, " + type + ")", -2, x.count(0, type));
        }
    }
}
