/** The last sentences of 'Terms', over every mix of good, wrong and extreme arguments. */
public final class WrongInputsTest {
    private static final Due due = new Due();
    private static final int MAX = Integer.MAX_VALUE;
    private static final int MIN = Integer.MIN_VALUE;
    private static final int[] OWNERS = {MIN, -1, 0, 1, 2, 4, 5, MAX};
    private static final int[] STARTS = {MIN, MIN + 39, -1, 0, 1, 39, 40, MAX - 39, MAX};
    private static final int[] LENGTHS = {MIN, MIN + 40, -1, 0, 1, 2, 39, 40, 41, MAX - 38, MAX};
    private static final int[] TYPES = {MIN, -1, 0, 1, 2, 3, MAX};

    private interface Request {
        void on(int owner, int start, int length, int type);
    }

    public static void main(String[] args) {
        due.sentence("No question changes anything", WrongInputsTest::questionsChangeNothing);
        due.sentence("A refused call changes nothing", () -> everyMix(WrongInputsTest::refusalsChangeNothing));
        due.sentence("A refused call changes nothing: each alone", WrongInputsTest::eachRefusalChangesNothing);
        due.sentence("the tests are made in the order named", () -> everyMix(WrongInputsTest::firstTestDecides));
        due.sentence("the tests are made in the order named: the rest", WrongInputsTest::firstOfTwoTestsDecides);
        due.end();
    }

    private static void everyMix(Request request) {
        for (int owner : OWNERS) {
            for (int start : STARTS) {
                for (int length : LENGTHS) {
                    for (int type : TYPES) {
                        request.on(owner, start, length, type);
                    }
                }
            }
        }
    }

    /** 0 and 1 have WRITE locks on bytes 0 and 39, and 1 waits for 0. */
    private static RecordLocks prepared() {
        RecordLocks x = new RecordLocks();
        x.lock(0, 0, 1, 2);
        x.lock(1, 39, 1, 2);
        x.await(1, 0, 1, 1);
        return x;
    }

    private static boolean touches(int at, int start, int length) {
        return start <= at && at < start + length;
    }

    private static void firstTestDecides(int owner, int start, int length, int type) {
        String arguments = Due.call("", owner, start, length, type);
        int lockDue = Model.fault(owner, start, length, type, 0);
        int awaitDue = Model.fault(owner, start, length, type, 1);
        int obstacleDue = awaitDue;
        if (lockDue == 0) {
            boolean meets0 = owner != 0 && touches(0, start, length);
            boolean meets1 = owner != 1 && touches(39, start, length);
            if (obstacleDue == 0) {
                obstacleDue = meets0 ? 0 : meets1 ? 39 : -4;
            }
            if (owner == 1) {
                lockDue = -4;
                awaitDue = awaitDue == 0 ? -4 : awaitDue;
            } else if (type != 0 && (meets0 || meets1)) {
                lockDue = -5;
                awaitDue = owner == 0 ? -5 : 1;
            } else if (type != 2 && owner == 0 && touches(0, start, length)) {
                lockDue = 1;
            }
        }
        RecordLocks x = prepared();
        due.is("obstacle" + arguments, obstacleDue, x.obstacle(owner, start, length, type));
        due.is("wouldCircle" + arguments, awaitDue == -5 ? 1 : 0, x.wouldCircle(owner, start, length, type));
        due.is("lock" + arguments, lockDue, x.lock(owner, start, length, type));
        due.is("await" + arguments, awaitDue, prepared().await(owner, start, length, type));
    }

    private static void firstOfTwoTestsDecides() {
        for (int owner : Edges.BAD_OWNERS) {
            RecordLocks x = prepared();
            due.is(Due.call("lockAt", owner, 40), -1, x.lockAt(owner, 40));
            due.is(Due.call("count", owner, 3), -1, x.count(owner, 3));
            due.is(Due.call("pieceStart", owner, 1), -1, x.pieceStart(owner, 1));
            due.is(Due.call("pieceEnd", owner, 1), -1, x.pieceEnd(owner, 1));
            due.is(Due.call("pieceType", owner, 1), -1, x.pieceType(owner, 1));
            due.is(Due.call("cancel", owner), -1, x.cancel(owner));
            due.is(Due.call("ahead", owner), -1, x.ahead(owner));
        }
    }

    private static void refusalsChangeNothing(int owner, int start, int length, int type) {
        String before = Due.state(prepared());
        RecordLocks x = prepared();
        if (x.lock(owner, start, length, type) < 0) {
            due.is("state after " + Due.call("lock", owner, start, length, type), before, Due.state(x));
        }
        x = prepared();
        if (x.await(owner, start, length, type) < 0) {
            due.is("state after " + Due.call("await", owner, start, length, type), before, Due.state(x));
        }
    }

    private static void eachRefusalChangesNothing() {
        due.unchanged("lock(5, 30, 1, 2)", -1, x -> x.lock(5, 30, 1, 2));
        due.unchanged("lock(4, 30, 11, 2)", -2, x -> x.lock(4, 30, 11, 2));
        due.unchanged("lock(4, 30, 1, 3)", -3, x -> x.lock(4, 30, 1, 3));
        due.unchanged("lock(1, 30, 1, 2)", -4, x -> x.lock(1, 30, 1, 2));
        due.unchanged("lock(4, 30, 10, 2)", -5, x -> x.lock(4, 30, 10, 2));
        due.unchanged("await(5, 30, 1, 2)", -1, x -> x.await(5, 30, 1, 2));
        due.unchanged("await(4, 30, 11, 2)", -2, x -> x.await(4, 30, 11, 2));
        due.unchanged("await(4, 30, 1, 3)", -3, x -> x.await(4, 30, 1, 3));
        due.unchanged("await(1, 30, 1, 2)", -4, x -> x.await(1, 30, 1, 2));
        due.unchanged("await(0, 30, 10, 2)", -5, x -> x.await(0, 30, 10, 2));
        due.unchanged("cancel(5)", -1, x -> x.cancel(5));
        due.unchanged("cancel(0)", -2, x -> x.cancel(0));
        due.unchanged("close(5)", -1, x -> x.close(5));
    }

    private static void questionsChangeNothing() {
        due.unchanged("lockAt(1, 39)", 2, x -> x.lockAt(1, 39));
        due.unchanged("holders(10)", 6, x -> x.holders(10));
        due.unchanged("obstacle(4, 20, 20, 1)", 39, x -> x.obstacle(4, 20, 20, 1));
        due.unchanged("wouldCircle(0, 30, 10, 2)", 1, x -> x.wouldCircle(0, 30, 10, 2));
        due.unchanged("wouldCircle(4, 30, 10, 2)", 0, x -> x.wouldCircle(4, 30, 10, 2));
        due.unchanged("wouldCircle(4, 30, 1, 2)", 0, x -> x.wouldCircle(4, 30, 1, 2));
        due.unchanged("waiting(1)", 1, x -> x.waiting(1));
        due.unchanged("waitsFor(2)", 3, x -> x.waitsFor(2));
        due.unchanged("ahead(2)", 1, x -> x.ahead(2));
        due.unchanged("pieces(1)", 2, x -> x.pieces(1));
        due.unchanged("pieceStart(1, 1)", 39, x -> x.pieceStart(1, 1));
        due.unchanged("pieceEnd(1, 0)", 19, x -> x.pieceEnd(1, 0));
        due.unchanged("pieceType(1, 1)", 2, x -> x.pieceType(1, 1));
        due.unchanged("count(1, 1)", 10, x -> x.count(1, 1));
        due.unchanged("free()", 9, x -> x.free());
    }
}
