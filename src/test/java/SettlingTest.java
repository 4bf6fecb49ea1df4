/** Settling, as promises 2, 3 and 5 ask for it: who is granted, in which order, and how often. */
public final class SettlingTest {
    private static final Due due = new Due();

    public static void main(String[] args) {
        longestWaitingFirst();
        laterOnesPassThoseThatStillConflict();
        aGrantCanShutOutALaterOne();
        aGrantCanLetInAnEarlierOne();
        afterAGrantTheLongestWaitingIsNext();
        due.end();
    }

    private static void longestWaitingFirst() {
        // Every order of four waiting owners; each release lets in exactly the next.
        for (int code = 0; code < 256; code++) {
            int[] order = {1 + (code & 3), 1 + (code >> 2 & 3), 1 + (code >> 4 & 3), 1 + (code >> 6 & 3)};
            int set = 1 << order[0] | 1 << order[1] | 1 << order[2] | 1 << order[3];
            if (set != 30) {
                continue;
            }
            RecordLocks x = new RecordLocks();
            x.lock(0, 0, 1, 2);
            for (int place = 0; place < 4; place++) {
                due.is("await in order " + code, 1, x.await(order[place], 0, 1, 2));
                due.is("ahead in order " + code, place, x.ahead(order[place]));
            }
            int holder = 0;
            for (int place = 0; place < 4; place++) {
                due.is("release in order " + code, 1, x.lock(holder, 0, 1, 0));
                holder = order[place];
                due.is("holders in order " + code, 1 << holder, x.holders(0));
            }
        }
    }

    private static void laterOnesPassThoseThatStillConflict() {
        RecordLocks x = new RecordLocks();
        x.lock(0, 0, 20, 2);
        x.await(1, 0, 20, 1);
        x.await(2, 10, 1, 1);
        due.is("lock(0, 10, 1, 0)", 1, x.lock(0, 10, 1, 0));
        due.is("waiting(1)", 1, x.waiting(1));
        due.is("waiting(2)", 0, x.waiting(2));
        // Reading beside a waiting writer is not held up by it.
        x.await(3, 10, 1, 2);
        due.is("lock(4, 10, 1, 1)", 0, x.lock(4, 10, 1, 1));
        due.is("waitsFor(3)", 20, x.waitsFor(3));
    }

    private static void aGrantCanShutOutALaterOne() {
        RecordLocks x = new RecordLocks();
        x.lock(0, 0, 40, 2);
        x.await(4, 0, 10, 2);
        x.await(3, 9, 2, 2);
        x.await(2, 10, 10, 2);
        due.is("lock(0, 0, 40, 0)", 2, x.lock(0, 0, 40, 0));
        due.is("waiting(4)", 0, x.waiting(4));
        due.is("waiting(3)", 1, x.waiting(3));
        due.is("waiting(2)", 0, x.waiting(2));
        due.is("waitsFor(3)", 20, x.waitsFor(3));
    }

    private static void aGrantCanLetInAnEarlierOne() {
        // 2 waits to read 0 .. 9, of which it writes 0 .. 4: granting it takes WRITE locks
        // away, and 1, which has been waiting longer, can read there too.
        RecordLocks x = new RecordLocks();
        x.lock(0, 5, 5, 2);
        x.lock(2, 0, 5, 2);
        x.await(1, 0, 5, 1);
        x.await(2, 0, 10, 1);
        due.is("waitsFor(1)", 4, x.waitsFor(1));
        due.is("close(0)", 5, x.close(0));
        due.is("waiting(1)", 0, x.waiting(1));
        due.is("waiting(2)", 0, x.waiting(2));
        due.is("count(1, 1)", 5, x.count(1, 1));
        due.is("count(2, 1)", 10, x.count(2, 1));

        x = new RecordLocks();
        x.lock(0, 5, 5, 2);
        x.lock(2, 0, 5, 2);
        x.await(1, 0, 5, 1);
        x.await(2, 0, 10, 1);
        due.is("lock(0, 5, 5, 0)", 2, x.lock(0, 5, 5, 0));
    }

    private static void afterAGrantTheLongestWaitingIsNext() {
        // Once 2 is granted, 1 and 3 could be, but not both: byte 20 goes to 1, which has been
        // waiting longest, though 3 stood behind 2 and could have been granted all along.
        RecordLocks x = new RecordLocks();
        x.lock(0, 10, 11, 2);
        x.lock(2, 0, 1, 2);
        x.await(1, 0, 21, 1);
        x.await(2, 0, 11, 1);
        x.await(3, 20, 1, 2);
        due.is("ahead(3)", 2, x.ahead(3));
        due.is("lock(0, 0, 40, 0)", 2, x.lock(0, 0, 40, 0));
        due.is("waiting(2)", 0, x.waiting(2));
        due.is("waiting(1)", 0, x.waiting(1));
        due.is("lockAt(1, 20)", 1, x.lockAt(1, 20));
        due.is("waitsFor(3)", 2, x.waitsFor(3));
    }
}
