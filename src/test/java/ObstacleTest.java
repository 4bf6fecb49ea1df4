/** Promise 8: obstacle. */
public final class ObstacleTest {
    private static final Due due = new Due();

    public static void main(String[] args) {
        due.sentence("The least byte of the range", ObstacleTest::leastByte);
        due.sentence("of the range: its first and its last byte", ObstacleTest::edgesOfTheRange);
        due.sentence("a lock that conflicts with one of this type", ObstacleTest::conflictsOfTypes);
        due.sentence("with one by this owner", ObstacleTest::ownLocksAreNone);
        due.sentence("also for an owner that waits", ObstacleTest::ownerThatWaits);
        due.sentence("-1 if owner is not good", ObstacleTest::ownerNotGood);
        due.sentence("-2 if the range is not good", ObstacleTest::rangeNotGood);
        due.sentence("-3 if type is not 1 or 2", ObstacleTest::typeNotGood);
        due.sentence("-4 if there is none", ObstacleTest::none);
        due.end();
    }

    private static void answers(int want, int owner, int start, int length, int type) {
        String call = Due.call("obstacle", owner, start, length, type);
        due.unchanged(call, want, x -> x.obstacle(owner, start, length, type));
    }

    private static void leastByte() {
        answers(0, 4, 0, 40, 1);
        answers(0, 4, 0, 40, 2);
        answers(10, 4, 10, 30, 2);
        answers(39, 4, 10, 30, 1);
        answers(20, 4, 20, 20, 2);
        for (int at = 0; at < 40; at++) {
            RecordLocks x = new RecordLocks();
            x.lock(3, at, 40 - at, 2);
            due.is("obstacle(0, 0, 40, 1) with WRITE from " + at, at, x.obstacle(0, 0, 40, 1));
        }
    }

    private static void edgesOfTheRange() {
        answers(9, 4, 9, 1, 1);
        answers(9, 4, 9, 31, 1);
        answers(10, 0, 5, 6, 2);
        answers(-4, 0, 5, 5, 2);
        answers(29, 4, 29, 1, 2);
        answers(-4, 4, 30, 9, 2);
        answers(39, 4, 30, 10, 2);
    }

    private static void conflictsOfTypes() {
        answers(-4, 4, 10, 20, 1);
        answers(10, 4, 10, 20, 2);
        answers(9, 4, 9, 20, 1);
        answers(9, 4, 9, 20, 2);
    }

    private static void ownLocksAreNone() {
        answers(-4, 3, 20, 10, 2);
        answers(39, 0, 0, 40, 1);
        answers(10, 0, 0, 40, 2);
        // 1 and 2 read byte 14, and 1 alone bytes 15 .. 19.
        answers(14, 1, 14, 6, 2);
        answers(-4, 1, 15, 5, 2);
    }

    private static void ownerThatWaits() {
        answers(5, 1, 5, 10, 1);
        answers(9, 2, 9, 2, 2);
        answers(-4, 1, 20, 19, 1);
        // What an owner waits for is no lock.
        RecordLocks x = new RecordLocks();
        x.lock(0, 0, 1, 2);
        x.await(1, 0, 40, 2);
        due.is("obstacle(2, 1, 39, 2)", -4, x.obstacle(2, 1, 39, 2));
    }

    private static void ownerNotGood() {
        for (int owner : Edges.BAD_OWNERS) {
            answers(-1, owner, 0, 1, 1);
            answers(-1, owner, 30, 1, 1);
            answers(-1, owner, 0, 0, 1);
            answers(-1, owner, 0, 1, 0);
        }
    }

    private static void rangeNotGood() {
        for (int[] range : Edges.BAD_RANGES) {
            for (int type = -1; type <= 3; type++) {
                answers(-2, 4, range[0], range[1], type);
            }
        }
    }

    private static void typeNotGood() {
        typeRefused(0);
        for (int type : Edges.BAD_TYPES) {
            typeRefused(type);
        }
    }

    private static void typeRefused(int type) {
        answers(-3, 4, 0, 40, type);
        answers(-3, 4, 30, 1, type);
        answers(-3, 1, 5, 10, type);
    }

    private static void none() {
        for (int owner = 0; owner < 5; owner++) {
            RecordLocks x = new RecordLocks();
            due.is(Due.call("obstacle", owner, 0, 40, 2) + " when new", -4, x.obstacle(owner, 0, 40, 2));
            x.lock(owner, 0, 40, 2);
            due.is(Due.call("obstacle", owner, 0, 40, 2) + " of all", -4, x.obstacle(owner, 0, 40, 2));
        }
        answers(-4, 4, 30, 1, 2);
        answers(-4, 4, 38, 1, 1);
    }
}
