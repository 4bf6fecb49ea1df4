/** Promises 6, 7, 17 and 18: lockAt, holders, count and free. */
public final class ByteQuestionsTest {
    private static final Due due = new Due();

    public static void main(String[] args) {
        due.sentence("lockAt: the lock that the owner has: 0, 1 or 2", ByteQuestionsTest::lockOnEachByte);
        due.sentence("lockAt: -1 if owner is not good", ByteQuestionsTest::lockAtOfABadOwner);
        due.sentence("lockAt: -2 if at is not good", ByteQuestionsTest::lockAtOfABadByte);
        due.sentence("holders: the set of the owners that have a lock", ByteQuestionsTest::everySetOfHolders);
        due.sentence("holders: who waits has no lock yet", ByteQuestionsTest::whoWaitsHoldsNothingYet);
        due.sentence("holders: -1 if at is not good", ByteQuestionsTest::holdersOfABadByte);
        due.sentence("count: on how many bytes", ByteQuestionsTest::countsEachType);
        due.sentence("count: NONE: on how many it has none", ByteQuestionsTest::countsBytesWithout);
        due.sentence("count: -1 if owner is not good", ByteQuestionsTest::countOfABadOwner);
        due.sentence("count: -2 if type is not in 0 .. 2", ByteQuestionsTest::countOfABadType);
        due.sentence("free: how many bytes no owner has a lock on", ByteQuestionsTest::freeFromAllToNone);
        due.sentence("free: a byte with several locks counts once", ByteQuestionsTest::freeWithSeveralHolders);
        due.end();
    }

    private static void lockOnEachByte() {
        for (int owner = 0; owner < 5; owner++) {
            for (int at : new int[] {0, 1, 20, 38, 39}) {
                RecordLocks x = new RecordLocks();
                int type = 1 + (owner + at) % 2;
                x.lock(owner, at, 1, type);
                for (int cell = 0; cell < 200; cell++) {
                    int want = cell == 40 * owner + at ? type : 0;
                    due.is(Due.call("lockAt", cell / 40, cell % 40), want, x.lockAt(cell / 40, cell % 40));
                }
            }
        }
    }

    private static void lockAtOfABadOwner() {
        for (int owner : Edges.BAD_OWNERS) {
            for (int at : new int[] {0, 39, -1, 40}) {
                due.unchanged(Due.call("lockAt", owner, at), -1, x -> x.lockAt(owner, at));
            }
        }
    }

    private static void lockAtOfABadByte() {
        for (int at : Edges.BAD_BYTES) {
            for (int owner = 0; owner < 5; owner++) {
                int asked = owner;
                due.unchanged(Due.call("lockAt", asked, at), -2, x -> x.lockAt(asked, at));
            }
        }
    }

    private static void everySetOfHolders() {
        RecordLocks x = new RecordLocks();
        for (int set = 0; set < 32; set++) {
            for (int owner = 0; owner < 5; owner++) {
                x.lock(owner, set, 1, set >> owner & 1);
            }
        }
        for (int set = 0; set < 32; set++) {
            due.is(Due.call("holders", set), set, x.holders(set));
        }
        x.lock(4, 39, 1, 2);
        due.is("holders(39)", 16, x.holders(39));
        due.is("holders(38)", 0, x.holders(38));
    }

    private static void whoWaitsHoldsNothingYet() {
        RecordLocks x = new RecordLocks();
        x.lock(2, 39, 1, 2);
        x.await(1, 39, 1, 1);
        due.is("holders(39)", 4, x.holders(39));
        x.close(2);
        due.is("holders(39) after its grant", 2, x.holders(39));
    }

    private static void holdersOfABadByte() {
        for (int at : Edges.BAD_BYTES) {
            due.unchanged(Due.call("holders", at), -1, x -> x.holders(at));
        }
    }

    private static void countsEachType() {
        RecordLocks x = new RecordLocks();
        x.lock(0, 0, 10, 1);
        x.lock(1, 5, 10, 1);
        x.lock(0, 20, 3, 2);
        x.lock(0, 39, 1, 2);
        due.is("count(0, 1)", 10, x.count(0, 1));
        due.is("count(0, 2)", 4, x.count(0, 2));
        due.is("count(1, 1)", 10, x.count(1, 1));
        due.is("count(1, 2), none of them", 0, x.count(1, 2));
        x = new RecordLocks();
        x.lock(4, 0, 40, 2);
        due.is("count(4, 2), all of them", 40, x.count(4, 2));
        due.is("count(4, 1)", 0, x.count(4, 1));
        x.lock(4, 0, 40, 1);
        due.is("count(4, 1), all of them", 40, x.count(4, 1));
    }

    private static void countsBytesWithout() {
        RecordLocks x = new RecordLocks();
        due.is("count(0, 0) when new", 40, x.count(0, 0));
        x.lock(0, 0, 10, 1);
        x.lock(0, 39, 1, 2);
        due.is("count(0, 0)", 29, x.count(0, 0));
        due.is("count(1, 0), whoever else has locks", 40, x.count(1, 0));
        x.lock(0, 10, 29, 2);
        due.is("count(0, 0) with all bytes locked", 0, x.count(0, 0));
    }

    private static void countOfABadOwner() {
        for (int owner : Edges.BAD_OWNERS) {
            for (int type = -1; type <= 3; type++) {
                int asked = type;
                due.unchanged(Due.call("count", owner, asked), -1, x -> x.count(owner, asked));
            }
        }
    }

    private static void countOfABadType() {
        for (int type : Edges.BAD_TYPES) {
            for (int owner = 0; owner < 5; owner++) {
                int asked = owner;
                due.unchanged(Due.call("count", asked, type), -2, x -> x.count(asked, type));
            }
        }
    }

    private static void freeFromAllToNone() {
        RecordLocks x = new RecordLocks();
        due.is("free() when new", 40, x.free());
        for (int at = 0; at < 40; at++) {
            x.lock(at % 5, at, 1, 1 + at % 2);
            due.is("free() with bytes 0 .. " + at, 39 - at, x.free());
        }
        for (int owner = 0; owner < 5; owner++) {
            x.close(owner);
            due.is("free() after " + Due.call("close", owner), 8 * (owner + 1), x.free());
        }
    }

    private static void freeWithSeveralHolders() {
        RecordLocks x = new RecordLocks();
        for (int owner = 0; owner < 5; owner++) {
            x.lock(owner, 10, 10, 1);
            due.is("free() with readers 0 .. " + owner, 30, x.free());
        }
        for (int owner = 0; owner < 5; owner++) {
            due.is("free() before " + Due.call("close", owner), 30, x.free());
            x.close(owner);
        }
        due.is("free()", 40, x.free());
    }
}
