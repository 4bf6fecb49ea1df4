/** Promises 10, 11 and 12: waiting, waitsFor and ahead. */
public final class WaitQuestionsTest {
    private static final Due due = new Due();

    public static void main(String[] args) {
        whileOwnersComeAndGo();
        waitsForFollowsTheLocks();
        refusals();
        due.end();
    }

    private static void line(RecordLocks x, int... ahead) {
        for (int owner = 0; owner < 5; owner++) {
            due.is("waiting(" + owner + ")", ahead[owner] >= 0 ? 1 : 0, x.waiting(owner));
            due.is("ahead(" + owner + ")", ahead[owner], x.ahead(owner));
        }
    }

    private static void whileOwnersComeAndGo() {
        RecordLocks x = new RecordLocks();
        x.lock(2, 0, 40, 2);
        line(x, -2, -2, -2, -2, -2);
        x.await(4, 10, 10, 2);
        line(x, -2, -2, -2, -2, 0);
        x.await(0, 0, 1, 2);
        x.await(3, 1, 1, 2);
        x.await(1, 2, 1, 2);
        line(x, 1, 3, -2, 2, 0);
        x.lock(2, 0, 1, 0);
        line(x, -2, 2, -2, 1, 0);
        x.cancel(4);
        line(x, -2, 1, -2, 0, -2);
        x.await(4, 5, 1, 1);
        line(x, -2, 1, -2, 0, 2);
        x.close(1);
        line(x, -2, -2, -2, 0, 1);
        x.close(2);
        line(x, -2, -2, -2, -2, -2);
    }

    private static void waitsForFollowsTheLocks() {
        RecordLocks x = new RecordLocks();
        x.lock(0, 0, 5, 1);
        x.lock(1, 3, 5, 1);
        x.lock(2, 8, 2, 2);
        due.is("waitsFor(3) before it waits", 0, x.waitsFor(3));
        x.await(3, 4, 5, 2);
        due.is("waitsFor(3) of READ and WRITE", 7, x.waitsFor(3));
        x.await(4, 4, 5, 1);
        due.is("a reader waits for writers alone", 4, x.waitsFor(4));
        x.lock(0, 4, 1, 0);
        due.is("waitsFor(3) when one is gone", 6, x.waitsFor(3));
        x.lock(0, 5, 1, 1);
        due.is("waitsFor(3) when it is back", 7, x.waitsFor(3));
        x.lock(2, 8, 2, 1);
        due.is("waitsFor(4) that was granted", 0, x.waitsFor(4));
        due.is("waitsFor(3) with the granted one", 23, x.waitsFor(3));
        due.is("waitsFor(0) that never waited", 0, x.waitsFor(0));
        x.cancel(3);
        due.is("waitsFor(3) after cancel", 0, x.waitsFor(3));

        // An owner doesn't wait for itself.
        x = new RecordLocks();
        x.lock(0, 0, 5, 2);
        x.lock(1, 5, 5, 2);
        x.await(0, 0, 10, 2);
        due.is("waitsFor(0)", 2, x.waitsFor(0));
    }

    private static void refusals() {
        RecordLocks x = new RecordLocks();
        int[] badOwners = {-1, 5, 6, Integer.MAX_VALUE, Integer.MIN_VALUE};
        for (int owner : badOwners) {
            due.is("waiting(" + owner + ")", -1, x.waiting(owner));
            due.is("waitsFor(" + owner + ")", -1, x.waitsFor(owner));
            due.is("ahead(" + owner + ")", -1, x.ahead(owner));
        }
    }
}
