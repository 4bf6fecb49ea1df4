import java.util.function.IntFunction;
import java.util.function.ToIntFunction;

/** Promises 10, 11 and 12: waiting, waitsFor and ahead. */
public final class WaitQuestionsTest {
    private static final Due due = new Due();

    public static void main(String[] args) {
        due.sentence("waiting: 1 if the owner is waiting, otherwise 0", WaitQuestionsTest::eachWayToWaitNoMore);
        due.sentence("waiting: -1 if owner is not good", WaitQuestionsTest::waitingOfABadOwner);
        due.sentence("waitsFor: the set of the owners for whom it waits", WaitQuestionsTest::waitsForFollowsTheLocks);
        due.sentence("waitsFor: not for itself", WaitQuestionsTest::waitsForOthersAlone);
        due.sentence("waitsFor: 0 if it isn't waiting", WaitQuestionsTest::waitsForNobody);
        due.sentence("waitsFor: -1 if owner is not good", WaitQuestionsTest::waitsForOfABadOwner);
        due.sentence("ahead: how many began before and wait still", WaitQuestionsTest::whileOwnersComeAndGo);
        due.sentence("ahead: from none to four waiting", WaitQuestionsTest::lineGrowsAndShrinks);
        due.sentence("ahead: -1 if owner is not good", WaitQuestionsTest::aheadOfABadOwner);
        due.sentence("ahead: -2 if it isn't waiting", WaitQuestionsTest::aheadOfOneThatDoesNotWait);
        due.end();
    }

    /** The due answers of ahead for the five owners; -2 for one that doesn't wait. */
    private static void line(RecordLocks x, int... ahead) {
        for (int owner = 0; owner < 5; owner++) {
            due.is("waiting(" + owner + ")", ahead[owner] >= 0 ? 1 : 0, x.waiting(owner));
            due.is("ahead(" + owner + ")", ahead[owner], x.ahead(owner));
        }
    }

    private static void eachWayToWaitNoMore() {
        for (int owner = 1; owner < 5; owner++) {
            RecordLocks x = new RecordLocks();
            due.is("waiting(" + owner + ") when new", 0, x.waiting(owner));
            x.lock(0, 0, 1, 2);
            x.lock(owner, 0, 1, 1);
            due.is("waiting(" + owner + ") after a refused lock", 0, x.waiting(owner));
            x.await(owner, 1, 1, 1);
            due.is("waiting(" + owner + ") granted at once", 0, x.waiting(owner));
            x.await(owner, 0, 1, 1);
            due.is("waiting(" + owner + ")", 1, x.waiting(owner));
            due.is("waiting(0) that is waited for", 0, x.waiting(0));
            x.cancel(owner);
            due.is("waiting(" + owner + ") after cancel", 0, x.waiting(owner));
            x.await(owner, 0, 1, 1);
            x.close(owner);
            due.is("waiting(" + owner + ") after close", 0, x.waiting(owner));
            x.await(owner, 0, 1, 1);
            x.lock(0, 0, 1, 1);
            due.is("waiting(" + owner + ") after its grant", 0, x.waiting(owner));
        }
    }

    private static void waitsForFollowsTheLocks() {
        RecordLocks x = new RecordLocks();
        x.lock(0, 0, 5, 1);
        x.lock(1, 3, 5, 1);
        x.lock(2, 8, 2, 2);
        x.await(3, 4, 5, 2);
        due.is("waitsFor(3) of READ and WRITE", 7, x.waitsFor(3));
        x.await(4, 4, 5, 1);
        due.is("a reader waits for writers alone", 4, x.waitsFor(4));
        x.lock(0, 4, 1, 0);
        due.is("waitsFor(3) when one is gone", 6, x.waitsFor(3));
        x.lock(0, 5, 1, 1);
        due.is("waitsFor(3) when it is back", 7, x.waitsFor(3));
        x.lock(2, 8, 2, 1);
        due.is("waitsFor(4) that was granted", 0, x.waitsFor(4));
        due.is("waitsFor(3) with the granted one", 23, x.waitsFor(3));
    }

    private static void waitsForOthersAlone() {
        for (int owner = 0; owner < 5; owner++) {
            RecordLocks x = new RecordLocks();
            for (int other = 0; other < 5; other++) {
                x.lock(other, 0, 40, 1);
            }
            due.is(Due.call("await", owner, 0, 40, 2), 1, x.await(owner, 0, 40, 2));
            due.is(Due.call("waitsFor", owner), 31 - (1 << owner), x.waitsFor(owner));
        }
    }

    private static void waitsForNobody() {
        for (int owner = 0; owner < 5; owner++) {
            due.is("new: " + Due.call("waitsFor", owner), 0, new RecordLocks().waitsFor(owner));
        }
        due.unchanged("waitsFor(0) that is waited for", 0, x -> x.waitsFor(0));
        due.unchanged("waitsFor(3) that never waited", 0, x -> x.waitsFor(3));
        RecordLocks x = Crowd.made();
        x.cancel(1);
        due.is("waitsFor(1) after cancel", 0, x.waitsFor(1));
        x.close(2);
        due.is("waitsFor(2) after close", 0, x.waitsFor(2));
        x = Crowd.made();
        x.close(0);
        due.is("waitsFor(1) after its grant", 0, x.waitsFor(1));
    }

    private static void whileOwnersComeAndGo() {
        RecordLocks x = new RecordLocks();
        x.lock(2, 0, 40, 2);
        line(x, -2, -2, -2, -2, -2);
        x.await(4, 10, 10, 2);
        line(x, -2, -2, -2, -2, 0);
        x.await(0, 0, 1, 2);
        x.await(3, 1, 1, 2);
        x.await(1, 2, 1, 2);
        line(x, 1, 3, -2, 2, 0);
        x.lock(2, 0, 1, 0);
        line(x, -2, 2, -2, 1, 0);
        x.cancel(4);
        line(x, -2, 1, -2, 0, -2);
        x.await(4, 5, 1, 1);
        line(x, -2, 1, -2, 0, 2);
        x.close(1);
        line(x, -2, -2, -2, 0, 1);
        x.close(2);
        line(x, -2, -2, -2, -2, -2);
    }

    private static void lineGrowsAndShrinks() {
        RecordLocks x = new RecordLocks();
        x.lock(0, 0, 1, 2);
        for (int owner = 4; owner > 0; owner--) {
            x.await(owner, 0, 1, 2);
            due.is("ahead(" + owner + ") of the last to come", 4 - owner, x.ahead(owner));
        }
        line(x, -2, 3, 2, 1, 0);
        // Each of the writers has the byte alone, so that one comes in at a time.
        x.close(0);
        line(x, -2, 2, 1, 0, -2);
        x.close(4);
        line(x, -2, 1, 0, -2, -2);
        x.close(3);
        line(x, -2, 0, -2, -2, -2);
        x.close(2);
        line(x, -2, -2, -2, -2, -2);
    }

    private static void ofBadOwners(String name, IntFunction<ToIntFunction<RecordLocks>> question) {
        for (int owner : Edges.BAD_OWNERS) {
            due.unchanged(Due.call(name, owner), -1, question.apply(owner));
        }
    }

    private static void waitingOfABadOwner() {
        ofBadOwners("waiting", owner -> x -> x.waiting(owner));
    }

    private static void waitsForOfABadOwner() {
        ofBadOwners("waitsFor", owner -> x -> x.waitsFor(owner));
    }

    private static void aheadOfABadOwner() {
        ofBadOwners("ahead", owner -> x -> x.ahead(owner));
    }

    private static void aheadOfOneThatDoesNotWait() {
        for (int owner = 0; owner < 5; owner++) {
            due.is("new: " + Due.call("ahead", owner), -2, new RecordLocks().ahead(owner));
        }
        due.unchanged("ahead(0) that is waited for", -2, x -> x.ahead(0));
        due.unchanged("ahead(4) that never waited", -2, x -> x.ahead(4));
        RecordLocks x = Crowd.made();
        x.cancel(1);
        due.is("ahead(1) after cancel", -2, x.ahead(1));
        x.close(2);
        due.is("ahead(2) after close", -2, x.ahead(2));
        x = Crowd.made();
        x.close(0);
        due.is("ahead(1) after its grant", -2, x.ahead(1));
    }
}
