/** Promise 9: wouldCircle; AwaitTest holds it against await too. */
public final class WouldCircleTest {
    private static final Due due = new Due();

    public static void main(String[] args) {
        due.sentence("1 if await with these arguments would answer -5", WouldCircleTest::oneForACircle);
        due.sentence("otherwise 0: where it would wait", WouldCircleTest::zeroForWaiting);
        due.sentence("otherwise 0: where it would be granted", WouldCircleTest::zeroForAGrant);
        due.sentence("also where it would be refused: owner", WouldCircleTest::zeroForABadOwner);
        due.sentence("also where it would be refused: range", WouldCircleTest::zeroForABadRange);
        due.sentence("also where it would be refused: type", WouldCircleTest::zeroForABadType);
        due.sentence("also where it would be refused: waiting", WouldCircleTest::zeroForAWaitingOwner);
        due.end();
    }

    private static void answers(int want, int owner, int start, int length, int type) {
        String call = Due.call("wouldCircle", owner, start, length, type);
        due.unchanged(call, want, x -> x.wouldCircle(owner, start, length, type));
    }

    private static void oneForACircle() {
        answers(1, 0, 10, 1, 2);
        answers(1, 0, 19, 1, 2);
        answers(1, 0, 39, 1, 1);
        answers(1, 0, 39, 1, 2);
        answers(1, 0, 0, 40, 1);
        answers(1, 0, 0, 40, 2);
    }

    private static void zeroForWaiting() {
        answers(0, 3, 0, 1, 1);
        answers(0, 3, 0, 40, 2);
        answers(0, 4, 39, 1, 1);
        answers(0, 4, 0, 40, 2);
        // 3 waits for nobody.
        answers(0, 0, 29, 1, 2);
    }

    private static void zeroForAGrant() {
        answers(0, 0, 0, 10, 2);
        answers(0, 0, 0, 39, 1);
        answers(0, 3, 20, 19, 2);
        answers(0, 4, 10, 29, 1);
        due.is("when new", 0, new RecordLocks().wouldCircle(0, 0, 40, 2));
    }

    private static void zeroForABadOwner() {
        for (int owner : Edges.BAD_OWNERS) {
            answers(0, owner, 0, 40, 2);
            answers(0, owner, 10, 1, 2);
            answers(0, owner, 0, 0, 0);
        }
    }

    private static void zeroForABadRange() {
        for (int[] range : Edges.BAD_RANGES) {
            answers(0, 0, range[0], range[1], 1);
            answers(0, 0, range[0], range[1], 2);
        }
    }

    private static void zeroForABadType() {
        answers(0, 0, 0, 40, 0);
        answers(0, 0, 39, 1, 0);
        for (int type : Edges.BAD_TYPES) {
            answers(0, 0, 0, 40, type);
            answers(0, 0, 39, 1, type);
        }
    }

    private static void zeroForAWaitingOwner() {
        // 2 waits for 1, so that these would close a circle, were 1 not waiting.
        answers(0, 1, 10, 1, 2);
        answers(0, 1, 0, 40, 2);
        answers(0, 1, 5, 10, 1);
        answers(0, 2, 9, 2, 2);
    }
}
