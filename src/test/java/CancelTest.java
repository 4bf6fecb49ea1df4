/** Promise 4: cancel. */
public final class CancelTest {
    public static void main(String[] args) {
        Due due = new Due();
        RecordLocks x = new RecordLocks();
        due.is("cancel(-1)", -1, x.cancel(-1));
        due.is("cancel(5)", -1, x.cancel(5));
        due.is("cancel(0) while nobody waits", -2, x.cancel(0));
        x.lock(0, 0, 10, 2);
        x.lock(1, 20, 5, 1);
        x.await(2, 3, 1, 1);
        x.await(1, 5, 10, 2);
        x.await(3, 4, 1, 1);
        due.is("ahead(3)", 2, x.ahead(3));
        due.is("cancel(0) that doesn't wait", -2, x.cancel(0));
        due.is("cancel(1)", 0, x.cancel(1));
        due.is("waiting(1)", 0, x.waiting(1));
        due.is("waitsFor(1)", 0, x.waitsFor(1));
        due.is("ahead(1)", -2, x.ahead(1));
        due.is("it keeps its locks", 5, x.count(1, 1));
        due.is("the owner behind it moves up", 1, x.ahead(3));
        due.is("the owner before it stays", 0, x.ahead(2));
        due.is("cancel(1) again", -2, x.cancel(1));
        due.is("it may lock again", 0, x.lock(1, 30, 1, 1));
        due.is("close(0) grants the others alone", 10, x.close(0));
        due.is("lockAt(2, 3)", 1, x.lockAt(2, 3));
        due.is("lockAt(3, 4)", 1, x.lockAt(3, 4));
        due.is("the dropped request is gone", 0, x.lockAt(1, 5));

        // Who waits anew stands at the end of the line.
        x = new RecordLocks();
        x.lock(0, 0, 1, 2);
        x.await(1, 0, 1, 2);
        x.await(2, 0, 1, 2);
        due.is("cancel(1)", 0, x.cancel(1));
        due.is("await(1, 0, 1, 2)", 1, x.await(1, 0, 1, 2));
        due.is("ahead(1)", 1, x.ahead(1));
        due.is("lock(0, 0, 1, 0)", 1, x.lock(0, 0, 1, 0));
        due.is("lockAt(2, 0)", 2, x.lockAt(2, 0));

        // Waiting and giving up goes on for as many calls as an object has.
        x = new RecordLocks();
        x.lock(0, 0, 1, 2);
        for (int time = 0; time < 250; time++) {
            int owner = 1 + time % 4;
            due.is("await no. " + time, 1, x.await(owner, 0, 1, 1));
            due.is("cancel no. " + time, 0, x.cancel(owner));
        }
        due.is("free()", 39, x.free());
        due.end();
    }
}
