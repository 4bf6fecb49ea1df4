/** Promise 1: a new object has no locks, and nobody waits. */
public final class NewObjectTest {
    public static void main(String[] args) {
        Due due = new Due();
        RecordLocks x = new RecordLocks();
        for (int owner = 0; owner < 5; owner++) {
            for (int at = 0; at < 40; at++) {
                due.is("new: lockAt(" + owner + ", " + at + ")", 0, x.lockAt(owner, at));
            }
            due.is("new: waiting(" + owner + ")", 0, x.waiting(owner));
            due.is("new: waitsFor(" + owner + ")", 0, x.waitsFor(owner));
            due.is("new: ahead(" + owner + ")", -2, x.ahead(owner));
            due.is("new: cancel(" + owner + ")", -2, x.cancel(owner));
            due.is("new: pieces(" + owner + ")", 0, x.pieces(owner));
            due.is("new: count(" + owner + ", 0)", 40, x.count(owner, 0));
        }
        due.is("new: free()", 40, x.free());

        // Two objects share nothing.
        due.is("lock(0, 0, 40, 2)", 0, x.lock(0, 0, 40, 2));
        due.is("await(1, 0, 1, 1)", 1, x.await(1, 0, 1, 1));
        RecordLocks y = new RecordLocks();
        due.is("another new: free()", 40, y.free());
        due.is("another new: waiting(1)", 0, y.waiting(1));
        due.is("another new: lock(4, 0, 40, 2)", 0, y.lock(4, 0, 40, 2));

        due.is("NONE", 0, RecordLocks.NONE);
        due.is("READ", 1, RecordLocks.READ);
        due.is("WRITE", 2, RecordLocks.WRITE);
        due.end();
    }
}
