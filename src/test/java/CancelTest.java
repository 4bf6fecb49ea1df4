/** Promise 4: cancel. */
public final class CancelTest {
    private static final Due due = new Due();

    public static void main(String[] args) {
        due.sentence("The owner waits no more", CancelTest::waitsNoMore);
        due.sentence("its request is dropped", CancelTest::requestIsDropped);
        due.sentence("-1 if owner is not good", CancelTest::ownerNotGood);
        due.sentence("-2 if it isn't waiting: it never did", CancelTest::neverWaited);
        due.sentence("-2 if it isn't waiting: it does no more", CancelTest::waitedBefore);
        due.sentence("otherwise 0: each place in the line", CancelTest::eachPlaceInTheLine);
        due.sentence("otherwise 0: time and again", CancelTest::timeAndAgain);
        due.end();
    }

    private static void waitsNoMore() {
        RecordLocks x = Crowd.made();
        due.is("cancel(1)", 0, x.cancel(1));
        due.is("waiting(1)", 0, x.waiting(1));
        due.is("waitsFor(1)", 0, x.waitsFor(1));
        due.is("ahead(1)", -2, x.ahead(1));
        due.is("it keeps its READ locks", 10, x.count(1, 1));
        due.is("it keeps its WRITE locks", 1, x.count(1, 2));
        due.is("others wait on", 3, x.waitsFor(2));
        due.is("it may lock again", 0, x.lock(1, 30, 1, 1));
    }

    private static void requestIsDropped() {
        RecordLocks x = Crowd.made();
        due.is("cancel(1)", 0, x.cancel(1));
        due.is("close(0)", 10, x.close(0));
        due.is("count(1, 1)", 10, x.count(1, 1));
        due.is("lockAt(1, 5)", 0, x.lockAt(1, 5));
    }

    private static void ownerNotGood() {
        for (int owner : Edges.BAD_OWNERS) {
            due.unchanged(Due.call("cancel", owner), -1, x -> x.cancel(owner));
        }
    }

    private static void neverWaited() {
        for (int owner = 0; owner < 5; owner++) {
            due.is("new: " + Due.call("cancel", owner), -2, new RecordLocks().cancel(owner));
        }
        due.unchanged("cancel(0), waited for", -2, x -> x.cancel(0));
        due.unchanged("cancel(3), with locks", -2, x -> x.cancel(3));
        due.unchanged("cancel(4), without locks", -2, x -> x.cancel(4));
    }

    private static void waitedBefore() {
        RecordLocks x = Crowd.made();
        x.cancel(1);
        due.is("cancel(1) again", -2, x.cancel(1));
        x.close(2);
        due.is("cancel(2) after close", -2, x.cancel(2));
        x = Crowd.made();
        x.close(0);
        due.is("cancel(1) after its grant", -2, x.cancel(1));
        x = Crowd.made();
        due.is("await(0, 10, 1, 2)", -5, x.await(0, 10, 1, 2));
        due.is("cancel(0) after a refused circle", -2, x.cancel(0));
    }

    private static void eachPlaceInTheLine() {
        for (int gone = 1; gone < 5; gone++) {
            RecordLocks x = new RecordLocks();
            x.lock(0, 0, 1, 2);
            for (int owner = 1; owner < 5; owner++) {
                x.await(owner, 0, 1, 2);
            }
            due.is(Due.call("cancel", gone), 0, x.cancel(gone));
            for (int owner = 1; owner < 5; owner++) {
                int place = owner == gone ? -2 : owner < gone ? owner - 1 : owner - 2;
                due.is(Due.call("ahead", owner) + " without " + gone, place, x.ahead(owner));
            }
            // Who waits anew stands at the end of the line.
            due.is(Due.call("await", gone, 0, 1, 2), 1, x.await(gone, 0, 1, 2));
            due.is(Due.call("ahead", gone), 3, x.ahead(gone));
            due.is("close(0)", 1, x.close(0));
            due.is("holders(0) without " + gone, gone == 1 ? 4 : 2, x.holders(0));
        }
    }

    private static void timeAndAgain() {
        RecordLocks x = new RecordLocks();
        x.lock(0, 0, 1, 2);
        for (int time = 0; time < 250; time++) {
            int owner = 1 + time % 4;
            due.is("await no. " + time, 1, x.await(owner, 0, 1, 1));
            due.is("cancel no. " + time, 0, x.cancel(owner));
        }
        due.is("free()", 39, x.free());
    }
}
