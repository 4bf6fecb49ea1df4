/** Promise 5: close. */
public final class CloseTest {
    public static void main(String[] args) {
        Due due = new Due();
        RecordLocks x = new RecordLocks();
        due.is("close(-1)", -1, x.close(-1));
        due.is("close(5)", -1, x.close(5));
        due.is("close(0) without locks", 0, x.close(0));

        x.lock(0, 0, 3, 1);
        x.lock(0, 39, 1, 2);
        x.lock(1, 0, 3, 1);
        due.is("close(0) counts READ and WRITE", 4, x.close(0));
        due.is("count(0, 0)", 40, x.count(0, 0));
        due.is("others keep their locks", 3, x.count(1, 1));
        due.is("close(0) again", 0, x.close(0));

        // A closed owner's own request is dropped, even one that its closing would let through.
        x = new RecordLocks();
        x.lock(0, 0, 10, 2);
        x.lock(1, 10, 10, 2);
        x.await(1, 0, 10, 1);
        due.is("close(1) that waits", 10, x.close(1));
        due.is("waiting(1)", 0, x.waiting(1));
        due.is("close(0)", 10, x.close(0));
        due.is("free()", 40, x.free());

        // Settling comes after; what it grants does not count in the answer.
        x = new RecordLocks();
        x.lock(0, 0, 40, 2);
        x.await(3, 0, 40, 1);
        x.await(1, 5, 5, 2);
        x.await(2, 30, 10, 1);
        due.is("close(0)", 40, x.close(0));
        due.is("the longest waiting first", 40, x.count(3, 1));
        due.is("who conflicts with it waits on", 8, x.waitsFor(1));
        due.is("who doesn't is granted too", 10, x.count(2, 1));
        due.is("ahead(1)", 0, x.ahead(1));
        due.is("close(3)", 40, x.close(3));
        due.is("count(1, 2)", 5, x.count(1, 2));

        // An owner that waits without any lock.
        x = new RecordLocks();
        x.lock(0, 0, 1, 2);
        x.await(1, 0, 1, 2);
        x.await(2, 0, 1, 2);
        due.is("close(1) without locks", 0, x.close(1));
        due.is("ahead(2)", 0, x.ahead(2));
        due.is("close(0)", 1, x.close(0));
        due.is("holders(0)", 4, x.holders(0));
        due.end();
    }
}
