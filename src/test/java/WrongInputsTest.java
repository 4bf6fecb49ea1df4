/** Every mix of good, wrong and extreme arguments: the first test that fails decides, and nothing changes. */
public final class WrongInputsTest {
    private static final Due due = new Due();
    private static final int MAX = Integer.MAX_VALUE;
    private static final int MIN = Integer.MIN_VALUE;
    private static final int[] OWNERS = {MIN, -1, 0, 1, 2, 4, 5, MAX};
    private static final int[] STARTS = {MIN, MIN + 39, -1, 0, 1, 39, 40, MAX - 39, MAX};
    private static final int[] LENGTHS = {MIN, MIN + 40, -1, 0, 1, 2, 39, 40, 41, MAX - 38, MAX};
    private static final int[] TYPES = {MIN, -1, 0, 1, 2, 3, MAX};

    public static void main(String[] args) {
        String before = Due.state(prepared());
        for (int owner : OWNERS) {
            for (int start : STARTS) {
                for (int length : LENGTHS) {
                    for (int type : TYPES) {
                        tryRequest(before, owner, start, length, type);
                    }
                }
            }
        }
        due.is("state() of the prepared object", before, Due.state(prepared()));
        questionsChangeNothing(before);
        due.end();
    }

    /** 0 and 1 have WRITE locks on bytes 0 and 39, and 1 waits for 0. */
    private static RecordLocks prepared() {
        RecordLocks x = new RecordLocks();
        x.lock(0, 0, 1, 2);
        x.lock(1, 39, 1, 2);
        x.await(1, 0, 1, 1);
        return x;
    }

    private static boolean touches(int at, int start, int length) {
        return start <= at && at < start + length;
    }

    private static int fault(int owner, int start, int length, int type, int leastType) {
        if (owner < 0 || owner > 4) {
            return -1;
        }
        if (length < 1 || length > 40 || start < 0 || (long) start + length > 40) {
            return -2;
        }
        if (type < leastType || type > 2) {
            return -3;
        }
        return 0;
    }

    private static void tryRequest(String before, int owner, int start, int length, int type) {
        String arguments = "(" + owner + ", " + start + ", " + length + ", " + type + ")";
        int lockDue = fault(owner, start, length, type, 0);
        int awaitDue = fault(owner, start, length, type, 1);
        int obstacleDue = awaitDue;
        if (lockDue == 0) {
            boolean meets0 = owner != 0 && touches(0, start, length);
            boolean meets1 = owner != 1 && touches(39, start, length);
            if (obstacleDue == 0) {
                obstacleDue = meets0 ? 0 : meets1 ? 39 : -4;
            }
            if (owner == 1) {
                lockDue = -4;
                awaitDue = awaitDue == 0 ? -4 : awaitDue;
            } else if (type != 0 && (meets0 || meets1)) {
                lockDue = -5;
                awaitDue = owner == 0 ? -5 : 1;
            } else if (type != 2 && owner == 0 && touches(0, start, length)) {
                lockDue = 1;
            }
        }
        RecordLocks x = prepared();
        due.is("obstacle" + arguments, obstacleDue, x.obstacle(owner, start, length, type));
        due.is("wouldCircle" + arguments, awaitDue == -5 ? 1 : 0, x.wouldCircle(owner, start, length, type));
        due.is("lock" + arguments, lockDue, x.lock(owner, start, length, type));
        if (lockDue < 0) {
            due.is("state after lock" + arguments, before, Due.state(x));
        }
        x = prepared();
        due.is("await" + arguments, awaitDue, x.await(owner, start, length, type));
        if (awaitDue < 0) {
            due.is("state after await" + arguments, before, Due.state(x));
        }
    }

    private static void questionsChangeNothing(String before) {
        RecordLocks x = prepared();
        for (int owner = -1; owner < 6; owner++) {
            for (int piece = -1; piece < 3; piece++) {
                x.pieceStart(owner, piece);
                x.pieceEnd(owner, piece);
                x.pieceType(owner, piece);
                x.count(owner, piece);
            }
            for (int type = 0; type < 4; type++) {
                x.obstacle(owner, 0, 40, type);
                x.wouldCircle(owner, 0, 40, type);
                x.wouldCircle(owner, 1, 1, type);
            }
            x.holders(owner * 10);
            x.lockAt(owner, 0);
            x.lockAt(owner, 40);
            x.pieces(owner);
            x.waiting(owner);
            x.waitsFor(owner);
            x.ahead(owner);
        }
        x.free();
        due.is("cancel(0)", -2, x.cancel(0));
        due.is("cancel(-1)", -1, x.cancel(-1));
        due.is("close(5)", -1, x.close(5));
        due.is("state after questions", before, Due.state(x));
        due.is("the request is kept", 1, x.lock(0, 0, 1, 0));
        due.is("and granted as it was", 1, x.lockAt(1, 0));
    }
}
