/** Settling, as promises 2, 3 and 5 ask for it: who is granted, in which order, and how often. */
public final class SettlingTest {
    private static final Due due = new Due();

    public static void main(String[] args) {
        due.sentence("as long as some waiting owner's request conflicts with no owner", SettlingTest::untilNoneIsLeft);
        due.sentence("some waiting owner: there is none", SettlingTest::nobodyWaits);
        due.sentence("conflicts with no owner: each still conflicts", SettlingTest::nobodyCanBeGranted);
        due.sentence("conflicts with no owner: one of several is left", SettlingTest::oneOfSeveralIsLeft);
        due.sentence("among those that conflict with none", SettlingTest::laterOnesPassThoseThatStillConflict);
        due.sentence("whose owner has been waiting longest", SettlingTest::longestWaitingFirst);
        due.sentence("longest: since it last began to wait", SettlingTest::waitingAnewBeginsAnew);
        due.sentence("is granted: and shuts out a later one", SettlingTest::aGrantCanShutOutALaterOne);
        due.sentence("is granted: and lets in an earlier one", SettlingTest::aGrantCanLetInAnEarlierOne);
        due.sentence("is granted: then again the longest waiting", SettlingTest::afterAGrantTheLongestWaitingIsNext);
        due.sentence("its owner waits no more", SettlingTest::theGrantedWaitNoMore);
        due.end();
    }

    private static void untilNoneIsLeft() {
        // Each grant but the last is what lets in the next: 4 gives up byte 3 to 3, and so on down to 1.
        RecordLocks x = new RecordLocks();
        x.lock(0, 39, 1, 2);
        for (int owner = 4; owner > 1; owner--) {
            x.lock(owner, owner - 1, 1, 2);
        }
        due.is("await(1, 1, 1, 1)", 1, x.await(1, 1, 1, 1));
        due.is("await(2, 1, 2, 1)", 1, x.await(2, 1, 2, 1));
        due.is("await(3, 2, 2, 1)", 1, x.await(3, 2, 2, 1));
        due.is("await(4, 3, 37, 1)", 1, x.await(4, 3, 37, 1));
        due.is("lock(0, 39, 1, 1)", 4, x.lock(0, 39, 1, 1));
        due.is("holders(1)", 6, x.holders(1));
        due.is("holders(2)", 12, x.holders(2));
        due.is("holders(3)", 24, x.holders(3));
        due.is("holders(39)", 17, x.holders(39));
    }

    private static void nobodyWaits() {
        RecordLocks x = new RecordLocks();
        due.is("lock(0, 0, 40, 2)", 0, x.lock(0, 0, 40, 2));
        due.is("lock(0, 0, 40, 1)", 0, x.lock(0, 0, 40, 1));
        due.is("lock(0, 0, 40, 0)", 0, x.lock(0, 0, 40, 0));
        due.is("free()", 40, x.free());
    }

    private static void nobodyCanBeGranted() {
        RecordLocks x = new RecordLocks();
        x.lock(0, 0, 40, 2);
        for (int owner = 1; owner < 5; owner++) {
            x.await(owner, 0, 10 * owner, 1);
        }
        due.is("lock(0, 1, 39, 0) leaves byte 0", 0, x.lock(0, 1, 39, 0));
        due.is("lock(0, 0, 1, 2)", 0, x.lock(0, 0, 1, 2));
        for (int owner = 1; owner < 5; owner++) {
            due.is("ahead(" + owner + ")", owner - 1, x.ahead(owner));
            due.is("count(" + owner + ", 0)", 40, x.count(owner, 0));
        }
    }

    private static void oneOfSeveralIsLeft() {
        RecordLocks x = new RecordLocks();
        for (int owner = 0; owner < 4; owner++) {
            x.lock(owner, 0, 1, 1);
        }
        x.await(4, 0, 1, 2);
        for (int owner = 0; owner < 3; owner++) {
            due.is("lock(" + owner + ", 0, 1, 0)", 0, x.lock(owner, 0, 1, 0));
        }
        due.is("lock(3, 0, 1, 0), the last", 1, x.lock(3, 0, 1, 0));
        due.is("lockAt(4, 0)", 2, x.lockAt(4, 0));
    }

    private static void longestWaitingFirst() {
        // Every order of four waiting owners; each release lets in exactly the next.
        for (int code = 0; code < 256; code++) {
            int[] order = {1 + (code & 3), 1 + (code >> 2 & 3), 1 + (code >> 4 & 3), 1 + (code >> 6 & 3)};
            int set = 1 << order[0] | 1 << order[1] | 1 << order[2] | 1 << order[3];
            if (set != 30) {
                continue;
            }
            RecordLocks x = new RecordLocks();
            x.lock(0, 0, 1, 2);
            for (int place = 0; place < 4; place++) {
                due.is("await in order " + code, 1, x.await(order[place], 0, 1, 2));
                due.is("ahead in order " + code, place, x.ahead(order[place]));
            }
            int holder = 0;
            for (int place = 0; place < 4; place++) {
                due.is("release in order " + code, 1, x.lock(holder, 0, 1, 0));
                holder = order[place];
                due.is("holders in order " + code, 1 << holder, x.holders(0));
            }
        }
    }

    private static void waitingAnewBeginsAnew() {
        RecordLocks x = new RecordLocks();
        x.lock(0, 0, 2, 2);
        x.await(1, 0, 1, 2);
        x.await(2, 0, 1, 2);
        x.cancel(1);
        x.await(1, 0, 1, 2);
        due.is("lock(0, 0, 1, 0)", 1, x.lock(0, 0, 1, 0));
        due.is("holders(0) after cancel", 4, x.holders(0));
        // A refused await is no beginning: 1 keeps its place before 3.
        x.await(3, 0, 1, 2);
        due.is("await(1, 0, 1, 1)", -4, x.await(1, 0, 1, 1));
        x.close(2);
        due.is("holders(0) after a refused await", 2, x.holders(0));
    }

    private static void laterOnesPassThoseThatStillConflict() {
        RecordLocks x = new RecordLocks();
        x.lock(0, 0, 20, 2);
        x.await(1, 0, 20, 1);
        x.await(2, 10, 1, 1);
        due.is("lock(0, 10, 1, 0)", 1, x.lock(0, 10, 1, 0));
        due.is("waiting(1)", 1, x.waiting(1));
        due.is("waiting(2)", 0, x.waiting(2));
        // Reading beside a waiting writer is not held up by it.
        x.await(3, 10, 1, 2);
        due.is("lock(4, 10, 1, 1)", 0, x.lock(4, 10, 1, 1));
        due.is("waitsFor(3)", 20, x.waitsFor(3));
    }

    private static void aGrantCanShutOutALaterOne() {
        RecordLocks x = new RecordLocks();
        x.lock(0, 0, 40, 2);
        x.await(4, 0, 10, 2);
        x.await(3, 9, 2, 2);
        x.await(2, 10, 10, 2);
        due.is("lock(0, 0, 40, 0)", 2, x.lock(0, 0, 40, 0));
        due.is("waiting(4)", 0, x.waiting(4));
        due.is("waiting(3)", 1, x.waiting(3));
        due.is("waiting(2)", 0, x.waiting(2));
        due.is("waitsFor(3)", 20, x.waitsFor(3));
    }

    /** 2 waits to read 0 .. 9, of which it writes 0 .. 4, and 1 has been waiting longer to read there. */
    private static RecordLocks oneBehindTwo() {
        RecordLocks x = new RecordLocks();
        x.lock(0, 5, 5, 2);
        x.lock(2, 0, 5, 2);
        x.await(1, 0, 5, 1);
        x.await(2, 0, 10, 1);
        return x;
    }

    private static void aGrantCanLetInAnEarlierOne() {
        RecordLocks x = oneBehindTwo();
        due.is("waitsFor(1)", 4, x.waitsFor(1));
        due.is("close(0)", 5, x.close(0));
        due.is("waiting(1)", 0, x.waiting(1));
        due.is("waiting(2)", 0, x.waiting(2));
        due.is("count(1, 1)", 5, x.count(1, 1));
        due.is("count(2, 1)", 10, x.count(2, 1));
        due.is("lock(0, 5, 5, 0)", 2, oneBehindTwo().lock(0, 5, 5, 0));
    }

    private static void afterAGrantTheLongestWaitingIsNext() {
        // Once 2 is granted, 1 and 3 could be, but not both: byte 20 goes to 1, which has been
        // waiting longest, though 3 stood behind 2 and could have been granted all along.
        RecordLocks x = new RecordLocks();
        x.lock(0, 10, 11, 2);
        x.lock(2, 0, 1, 2);
        x.await(1, 0, 21, 1);
        x.await(2, 0, 11, 1);
        x.await(3, 20, 1, 2);
        due.is("ahead(3)", 2, x.ahead(3));
        due.is("lock(0, 0, 40, 0)", 2, x.lock(0, 0, 40, 0));
        due.is("waiting(2)", 0, x.waiting(2));
        due.is("waiting(1)", 0, x.waiting(1));
        due.is("lockAt(1, 20)", 1, x.lockAt(1, 20));
        due.is("waitsFor(3)", 2, x.waitsFor(3));
    }

    private static void theGrantedWaitNoMore() {
        RecordLocks x = new RecordLocks();
        x.lock(0, 0, 1, 2);
        x.await(1, 0, 1, 1);
        due.is("close(0)", 1, x.close(0));
        due.is("waiting(1)", 0, x.waiting(1));
        due.is("lock(1, 0, 1, 0)", 0, x.lock(1, 0, 1, 0));
        // Granted once, not again when the byte is given back.
        due.is("lock(0, 0, 1, 2)", 0, x.lock(0, 0, 1, 2));
        due.is("lock(0, 0, 1, 0)", 0, x.lock(0, 0, 1, 0));
        due.is("free()", 40, x.free());
    }
}
