public final class RecordLocks {
    public static final int NONE = 0;
    public static final int READ = 1;
    public static final int WRITE = 2;

    private static final int OWNERS = 5;
    private static final int BYTES = 40;
    private static final int CELLS = OWNERS * BYTES;

    // One cell for each owner and byte, all bytes of owner 0 first.
    private final int[] cells = new int[CELLS];

    // The request an owner waits with; the type is NONE while it isn't waiting.
    private final int[] wantedStart = new int[OWNERS];
    private final int[] wantedLength = new int[OWNERS];
    private final int[] wantedType = new int[OWNERS];

    // The waiting owners, the one that has been waiting longest first.
    private final int[] line = new int[OWNERS];
    private int lineLength = 0;

    public RecordLocks() {
    }

    public int lock(int owner, int start, int length, int type) {
        int fault = requestFault(owner, start, length, type, NONE);
        if (fault != 0) {
            return fault;
        }
        if (isWaiting(owner)) {
            return -4;
        }
        if (opponents(owner, start, length, type) != 0) {
            return -5;
        }
        put(owner, start, length, type);
        return settle();
    }

    public int await(int owner, int start, int length, int type) {
        int refusal = awaitRefusal(owner, start, length, type);
        if (refusal != 0) {
            return refusal;
        }
        if (opponents(owner, start, length, type) != 0) {
            beginToWait(owner, start, length, type);
            return 1;
        }
        put(owner, start, length, type);
        settle();
        return 0;
    }

    public int cancel(int owner) {
        if (!isOwner(owner)) {
            return -1;
        }
        if (!isWaiting(owner)) {
            return -2;
        }
        // No settling: a request that is dropped was in nobody's way.
        stopWaiting(owner);
        return 0;
    }

    public int close(int owner) {
        if (!isOwner(owner)) {
            return -1;
        }
        int held = BYTES - bytesWith(owner, NONE);
        put(owner, 0, BYTES, NONE);
        stopWaiting(owner);
        settle();
        return held;
    }

    public int lockAt(int owner, int at) {
        if (!isOwner(owner)) {
            return -1;
        }
        if (!isByte(at)) {
            return -2;
        }
        return cells[owner * BYTES + at];
    }

    public int holders(int at) {
        if (!isByte(at)) {
            return -1;
        }
        return holderSet(at);
    }

    public int obstacle(int owner, int start, int length, int type) {
        int fault = requestFault(owner, start, length, type, READ);
        if (fault != 0) {
            return fault;
        }
        int end = start + length;
        for (int at = start; at < end; at++) {
            if (opponents(owner, at, 1, type) != 0) {
                return at;
            }
        }
        return -4;
    }

    public int wouldCircle(int owner, int start, int length, int type) {
        return awaitRefusal(owner, start, length, type) == -5 ? 1 : 0;
    }

    public int waiting(int owner) {
        if (!isOwner(owner)) {
            return -1;
        }
        return isWaiting(owner) ? 1 : 0;
    }

    public int waitsFor(int owner) {
        if (!isOwner(owner)) {
            return -1;
        }
        return waitedFor(owner);
    }

    public int ahead(int owner) {
        if (!isOwner(owner)) {
            return -1;
        }
        for (int place = 0; place < lineLength; place++) {
            if (line[place] == owner) {
                return place;
            }
        }
        return -2;
    }

    public int pieces(int owner) {
        if (!isOwner(owner)) {
            return -1;
        }
        int found = 0;
        for (int at = 0; at < BYTES; at++) {
            if (beginsPiece(owner, at)) {
                found++;
            }
        }
        return found;
    }

    public int pieceStart(int owner, int piece) {
        if (!isOwner(owner)) {
            return -1;
        }
        return firstByte(owner, piece);
    }

    public int pieceEnd(int owner, int piece) {
        if (!isOwner(owner)) {
            return -1;
        }
        int first = firstByte(owner, piece);
        if (first < 0) {
            return -2;
        }
        int last = first;
        for (int at = first + 1; at < BYTES; at++) {
            if (cells[owner * BYTES + at] != cells[owner * BYTES + first]) {
                break;
            }
            last = at;
        }
        return last;
    }

    public int pieceType(int owner, int piece) {
        if (!isOwner(owner)) {
            return -1;
        }
        int first = firstByte(owner, piece);
        if (first < 0) {
            return -2;
        }
        return cells[owner * BYTES + first];
    }

    public int count(int owner, int type) {
        if (!isOwner(owner)) {
            return -1;
        }
        if (type < NONE || type > WRITE) {
            return -2;
        }
        return bytesWith(owner, type);
    }

    public int free() {
        int found = 0;
        for (int at = 0; at < BYTES; at++) {
            if (holderSet(at) == 0) {
                found++;
            }
        }
        return found;
    }

    private static boolean isOwner(int owner) {
        return owner >= 0 && owner < OWNERS;
    }

    private static boolean isByte(int at) {
        return at >= 0 && at < BYTES;
    }

    private static boolean isRange(int start, int length) {
        // start + length could wrap around; BYTES - length can't once length is known.
        return length >= 1 && length <= BYTES && start >= 0 && start <= BYTES - length;
    }

    private static int requestFault(int owner, int start, int length, int type, int leastType) {
        if (!isOwner(owner)) {
            return -1;
        }
        if (!isRange(start, length)) {
            return -2;
        }
        if (type < leastType || type > WRITE) {
            return -3;
        }
        return 0;
    }

    private int awaitRefusal(int owner, int start, int length, int type) {
        int fault = requestFault(owner, start, length, type, READ);
        if (fault != 0) {
            return fault;
        }
        if (isWaiting(owner)) {
            return -4;
        }
        int opposed = opponents(owner, start, length, type);
        return leadsTo(opposed, owner) ? -5 : 0;
    }

    // The set of owners with whom the request conflicts.
    private int opponents(int owner, int start, int length, int type) {
        if (type == NONE) {
            return 0;
        }
        // Beside a READ lock only a WRITE lock conflicts, beside a WRITE lock any.
        int leastOpposed = type == READ ? WRITE : READ;
        int end = start + length;
        int found = 0;
        for (int other = 0; other < OWNERS; other++) {
            for (int at = start; at < end; at++) {
                if (other != owner && cells[other * BYTES + at] >= leastOpposed) {
                    found |= 1 << other;
                }
            }
        }
        return found;
    }

    // Empty for an owner that isn't waiting, since its wanted type is NONE.
    private int waitedFor(int owner) {
        return opponents(owner, wantedStart[owner], wantedLength[owner], wantedType[owner]);
    }

    // Whether one gets from these owners to the goal by going from waiting owners
    // to those they wait for.
    private boolean leadsTo(int owners, int goal) {
        int reached = owners;
        // A way that visits no owner twice has fewer steps than there are owners.
        for (int step = 0; step < OWNERS; step++) {
            for (int owner = 0; owner < OWNERS; owner++) {
                if ((reached & 1 << owner) != 0) {
                    reached |= waitedFor(owner);
                }
            }
        }
        return (reached & 1 << goal) != 0;
    }

    private boolean isWaiting(int owner) {
        return wantedType[owner] != NONE;
    }

    private void beginToWait(int owner, int start, int length, int type) {
        // The caller has seen that the owner isn't in the line, so there is a place.
        if (lineLength < OWNERS) {
            line[lineLength] = owner;
            lineLength++;
            wantedStart[owner] = start;
            wantedLength[owner] = length;
            wantedType[owner] = type;
        }
    }

    private void stopWaiting(int owner) {
        int kept = 0;
        for (int place = 0; place < lineLength; place++) {
            if (line[place] != owner) {
                line[kept] = line[place];
                kept++;
            }
        }
        lineLength = kept;
        wantedType[owner] = NONE;
    }

    private void put(int owner, int start, int length, int type) {
        int end = start + length;
        for (int at = start; at < end; at++) {
            cells[owner * BYTES + at] = type;
        }
    }

    private int settle() {
        int granted = 0;
        // Each round looks from the front again: a grant that turns WRITE into READ
        // can make way for an owner that has been waiting longer.
        for (int round = 0; round < OWNERS; round++) {
            int owner = firstGrantable();
            if (owner < 0) {
                break;
            }
            put(owner, wantedStart[owner], wantedLength[owner], wantedType[owner]);
            stopWaiting(owner);
            granted++;
        }
        return granted;
    }

    private int firstGrantable() {
        for (int place = 0; place < lineLength; place++) {
            if (waitedFor(line[place]) == 0) {
                return line[place];
            }
        }
        return -1;
    }

    private int holderSet(int at) {
        int found = 0;
        for (int owner = 0; owner < OWNERS; owner++) {
            if (cells[owner * BYTES + at] != NONE) {
                found |= 1 << owner;
            }
        }
        return found;
    }

    private int bytesWith(int owner, int type) {
        int found = 0;
        for (int at = 0; at < BYTES; at++) {
            if (cells[owner * BYTES + at] == type) {
                found++;
            }
        }
        return found;
    }

    private boolean beginsPiece(int owner, int at) {
        int type = cells[owner * BYTES + at];
        if (type == NONE) {
            return false;
        }
        return at == 0 || cells[owner * BYTES + at - 1] != type;
    }

    // The first byte of the piece, or -2 if there is no such piece.
    private int firstByte(int owner, int piece) {
        int passed = 0;
        for (int at = 0; at < BYTES; at++) {
            if (beginsPiece(owner, at)) {
                if (passed == piece) {
                    return at;
                }
                passed++;
            }
        }
        return -2;
    }
}
