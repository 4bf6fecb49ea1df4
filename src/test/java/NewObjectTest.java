/** Promise 1: a new object. */
public final class NewObjectTest {
    private static final Due due = new Due();

    public static void main(String[] args) {
        due.sentence("No locks", NewObjectTest::noLocks);
        due.sentence("An owner may be WAITING; no owner is at first", NewObjectTest::nobodyWaits);
        due.sentence("two objects share nothing", NewObjectTest::objectsApart);
        due.sentence("NONE 0, READ 1, WRITE 2", NewObjectTest::constants);
        due.end();
    }

    private static void noLocks() {
        RecordLocks x = new RecordLocks();
        for (int at = 0; at < 40; at++) {
            for (int owner = 0; owner < 5; owner++) {
                due.is(Due.call("lockAt", owner, at), 0, x.lockAt(owner, at));
            }
            due.is(Due.call("holders", at), 0, x.holders(at));
        }
        for (int owner = 0; owner < 5; owner++) {
            due.is(Due.call("pieces", owner), 0, x.pieces(owner));
            due.is(Due.call("count", owner, 0), 40, x.count(owner, 0));
            due.is(Due.call("obstacle", owner, 0, 40, 2), -4, x.obstacle(owner, 0, 40, 2));
        }
        due.is("free()", 40, x.free());
    }

    private static void nobodyWaits() {
        RecordLocks x = new RecordLocks();
        for (int owner = 0; owner < 5; owner++) {
            due.is(Due.call("waiting", owner), 0, x.waiting(owner));
            due.is(Due.call("waitsFor", owner), 0, x.waitsFor(owner));
            due.is(Due.call("ahead", owner), -2, x.ahead(owner));
            due.is(Due.call("cancel", owner), -2, x.cancel(owner));
        }
    }

    private static void objectsApart() {
        RecordLocks x = new RecordLocks();
        RecordLocks early = new RecordLocks();
        due.is("lock(0, 0, 40, 2)", 0, x.lock(0, 0, 40, 2));
        due.is("await(1, 0, 1, 1)", 1, x.await(1, 0, 1, 1));
        RecordLocks late = new RecordLocks();
        for (RecordLocks other : new RecordLocks[] {early, late}) {
            due.is("another: free()", 40, other.free());
            due.is("another: waiting(1)", 0, other.waiting(1));
            due.is("another: lock(4, 0, 40, 2)", 0, other.lock(4, 0, 40, 2));
        }
        due.is("count(0, 2)", 40, x.count(0, 2));
        due.is("waitsFor(1)", 1, x.waitsFor(1));
    }

    private static void constants() {
        due.is("NONE", 0, RecordLocks.NONE);
        due.is("READ", 1, RecordLocks.READ);
        due.is("WRITE", 2, RecordLocks.WRITE);
    }
}
