/** Promise 5: close. */
public final class CloseTest {
    private static final Due due = new Due();

    public static void main(String[] args) {
        due.sentence("All locks of the owner are gone", CloseTest::locksAreGone);
        due.sentence("it waits no more", CloseTest::waitsNoMore);
        due.sentence("it waits no more; then settling", CloseTest::ownRequestIsNotSettled);
        due.sentence("then settling", CloseTest::settles);
        due.sentence("-1 if owner is not good", CloseTest::ownerNotGood);
        due.sentence("on how many bytes it had locks: none", CloseTest::noLocks);
        due.sentence("on how many bytes it had locks: some or all", CloseTest::countsBytes);
        due.end();
    }

    private static void locksAreGone() {
        for (int owner = 0; owner < 5; owner++) {
            RecordLocks x = new RecordLocks();
            for (int other = 0; other < 5; other++) {
                x.lock(other, 0, 39, 1);
            }
            x.lock(owner, 39, 1, 2);
            due.is(Due.call("close", owner), 40, x.close(owner));
            due.is(Due.call("count", owner, 0), 40, x.count(owner, 0));
            due.is("others keep their locks", 31 - (1 << owner), x.holders(0));
            due.is("others keep their locks", 31 - (1 << owner), x.holders(38));
            due.is("free()", 1, x.free());
        }
    }

    private static void waitsNoMore() {
        RecordLocks x = new RecordLocks();
        x.lock(0, 0, 1, 2);
        x.await(1, 0, 1, 2);
        x.await(2, 0, 1, 2);
        due.is("close(1)", 0, x.close(1));
        due.is("waiting(1)", 0, x.waiting(1));
        due.is("ahead(2)", 0, x.ahead(2));
        due.is("close(0)", 1, x.close(0));
        due.is("holders(0)", 4, x.holders(0));
    }

    private static void ownRequestIsNotSettled() {
        RecordLocks x = new RecordLocks();
        x.lock(0, 0, 10, 2);
        x.lock(1, 10, 10, 2);
        x.await(1, 0, 10, 1);
        due.is("close(1) that waits", 10, x.close(1));
        due.is("waiting(1)", 0, x.waiting(1));
        due.is("close(0)", 10, x.close(0));
        due.is("free()", 40, x.free());

        // Closing 1 lets 2 through, and closing 0 would have let 1 through.
        x = new RecordLocks();
        x.lock(2, 0, 1, 2);
        x.lock(1, 1, 1, 2);
        x.lock(0, 2, 1, 2);
        due.is("await(2, 0, 2, 1)", 1, x.await(2, 0, 2, 1));
        due.is("await(1, 2, 1, 1)", 1, x.await(1, 2, 1, 1));
        due.is("close(1)", 1, x.close(1));
        due.is("count(2, 1)", 2, x.count(2, 1));
        due.is("close(0)", 1, x.close(0));
        due.is("count(1, 0)", 40, x.count(1, 0));
    }

    private static void settles() {
        RecordLocks x = new RecordLocks();
        x.lock(0, 0, 40, 2);
        x.await(3, 0, 40, 1);
        x.await(1, 5, 5, 2);
        x.await(2, 30, 10, 1);
        due.is("close(0), without what it grants", 40, x.close(0));
        due.is("the longest waiting first", 40, x.count(3, 1));
        due.is("who conflicts with it waits on", 8, x.waitsFor(1));
        due.is("who doesn't is granted too", 10, x.count(2, 1));
        due.is("ahead(1)", 0, x.ahead(1));
        due.is("close(3)", 40, x.close(3));
        due.is("count(1, 2)", 5, x.count(1, 2));
    }

    private static void ownerNotGood() {
        for (int owner : Edges.BAD_OWNERS) {
            due.unchanged(Due.call("close", owner), -1, x -> x.close(owner));
        }
    }

    private static void noLocks() {
        for (int owner = 0; owner < 5; owner++) {
            due.is("new: " + Due.call("close", owner), 0, new RecordLocks().close(owner));
        }
        due.unchanged("close(4) that has nothing to lose", 0, x -> x.close(4));
        RecordLocks x = Crowd.made();
        x.close(3);
        due.is("close(3) again", 0, x.close(3));
    }

    private static void countsBytes() {
        RecordLocks x = new RecordLocks();
        x.lock(0, 0, 3, 1);
        x.lock(0, 39, 1, 2);
        x.lock(1, 0, 3, 1);
        due.is("close(0) with READ and WRITE", 4, x.close(0));
        x.lock(0, 39, 1, 2);
        due.is("close(0) with one byte", 1, x.close(0));
        x.lock(1, 0, 40, 2);
        due.is("close(1) with all bytes", 40, x.close(1));
        x.lock(4, 0, 40, 1);
        due.is("close(4) with all bytes", 40, x.close(4));
    }
}
