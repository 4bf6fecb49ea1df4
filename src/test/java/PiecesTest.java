/** Promises 13 to 16: pieces, pieceStart, pieceEnd and pieceType. */
public final class PiecesTest {
    private static final Due due = new Due();

    /** A question about a piece. */
    private interface Question {
        int of(RecordLocks x, int owner, int piece);
    }

    public static void main(String[] args) {
        due.sentence("pieces: none without locks", PiecesTest::noPieces);
        due.sentence("pieces: neighbouring bytes", PiecesTest::wholeRange);
        due.sentence("pieces: greatest stretches", PiecesTest::piecesGrowTogetherAndFallApart);
        due.sentence("pieces: locks of the same type", PiecesTest::bordersOfType);
        due.sentence("pieces: from one to forty", PiecesTest::mostPieces);
        due.sentence("pieces: the owner's locks", PiecesTest::ownersApart);
        due.sentence("pieceStart: counted from the left, 0 for the first", PiecesTest::countedFromTheLeft);
        due.sentence("pieces: -1 if owner is not good", PiecesTest::piecesOfABadOwner);
        refusals("pieceStart", RecordLocks::pieceStart);
        refusals("pieceEnd", RecordLocks::pieceEnd);
        refusals("pieceType", RecordLocks::pieceType);
        due.end();
    }

    /** Each piece is told as start, end, type. */
    private static void pieces(RecordLocks x, int owner, int... told) {
        int many = told.length / 3;
        due.is("pieces(" + owner + ")", many, x.pieces(owner));
        for (int piece = 0; piece < many; piece++) {
            String arguments = Due.call("", owner, piece);
            due.is("pieceStart" + arguments, told[3 * piece], x.pieceStart(owner, piece));
            due.is("pieceEnd" + arguments, told[3 * piece + 1], x.pieceEnd(owner, piece));
            due.is("pieceType" + arguments, told[3 * piece + 2], x.pieceType(owner, piece));
        }
        noPiece(x, owner, many);
        noPiece(x, owner, -1);
    }

    private static void noPiece(RecordLocks x, int owner, int piece) {
        String arguments = Due.call("", owner, piece);
        due.is("pieceStart" + arguments, -2, x.pieceStart(owner, piece));
        due.is("pieceEnd" + arguments, -2, x.pieceEnd(owner, piece));
        due.is("pieceType" + arguments, -2, x.pieceType(owner, piece));
    }

    private static void noPieces() {
        RecordLocks x = new RecordLocks();
        for (int owner = 0; owner < 5; owner++) {
            pieces(x, owner);
        }
    }

    private static void wholeRange() {
        RecordLocks x = new RecordLocks();
        x.lock(0, 0, 40, 2);
        pieces(x, 0, 0, 39, 2);
        x.lock(0, 39, 1, 1);
        pieces(x, 0, 0, 38, 2, 39, 39, 1);
        x.lock(0, 0, 1, 0);
        pieces(x, 0, 1, 38, 2, 39, 39, 1);
        x.lock(0, 0, 1, 1);
        pieces(x, 0, 0, 0, 1, 1, 38, 2, 39, 39, 1);
        // The last byte and the first are no neighbours.
        x.lock(0, 1, 38, 0);
        pieces(x, 0, 0, 0, 1, 39, 39, 1);
    }

    private static void bordersOfType() {
        RecordLocks x = new RecordLocks();
        x.lock(1, 5, 3, 1);
        x.lock(1, 8, 3, 2);
        x.lock(1, 11, 3, 1);
        x.lock(1, 15, 3, 1);
        pieces(x, 1, 5, 7, 1, 8, 10, 2, 11, 13, 1, 15, 17, 1);
    }

    private static void piecesGrowTogetherAndFallApart() {
        RecordLocks x = new RecordLocks();
        x.lock(3, 5, 5, 1);
        x.lock(3, 15, 5, 1);
        x.lock(3, 10, 5, 1);
        pieces(x, 3, 5, 19, 1);
        x.lock(3, 12, 1, 0);
        pieces(x, 3, 5, 11, 1, 13, 19, 1);
        x.lock(3, 12, 1, 2);
        pieces(x, 3, 5, 11, 1, 12, 12, 2, 13, 19, 1);
        x.close(3);
        pieces(x, 3);
    }

    private static void mostPieces() {
        RecordLocks x = new RecordLocks();
        int[] told = new int[120];
        for (int at = 0; at < 40; at++) {
            int type = 1 + at % 2;
            x.lock(2, at, 1, type);
            due.is("pieces(2) with bytes 0 .. " + at, at + 1, x.pieces(2));
            told[3 * at] = at;
            told[3 * at + 1] = at;
            told[3 * at + 2] = type;
        }
        pieces(x, 2, told);
    }

    private static void ownersApart() {
        RecordLocks x = new RecordLocks();
        x.lock(0, 35, 5, 1);
        x.lock(1, 0, 5, 1);
        x.lock(1, 35, 5, 1);
        x.lock(2, 0, 5, 1);
        pieces(x, 0, 35, 39, 1);
        pieces(x, 1, 0, 4, 1, 35, 39, 1);
        pieces(x, 2, 0, 4, 1);
    }

    private static void countedFromTheLeft() {
        // Locked from the right to the left.
        RecordLocks x = new RecordLocks();
        x.lock(4, 39, 1, 1);
        pieces(x, 4, 39, 39, 1);
        x.lock(4, 20, 2, 2);
        pieces(x, 4, 20, 21, 2, 39, 39, 1);
        x.lock(4, 0, 1, 1);
        pieces(x, 4, 0, 0, 1, 20, 21, 2, 39, 39, 1);
    }

    private static void piecesOfABadOwner() {
        for (int owner : Edges.BAD_OWNERS) {
            due.unchanged(Due.call("pieces", owner), -1, x -> x.pieces(owner));
        }
    }

    private static void refusals(String name, Question question) {
        due.sentence(name + ": -1 if owner is not good", () -> ofBadOwners(name, question));
        due.sentence(name + ": -2 if there is no such piece", () -> ofBadPieces(name, question));
    }

    private static void ofBadOwners(String name, Question question) {
        for (int owner : Edges.BAD_OWNERS) {
            for (int piece = -1; piece < 2; piece++) {
                answers(-1, name, question, owner, piece);
            }
        }
    }

    private static void ofBadPieces(String name, Question question) {
        int[] pieces = {1, 2, 1, 1, 0};
        for (int owner = 0; owner < 5; owner++) {
            answers(-2, name, question, owner, pieces[owner]);
            for (int piece : new int[] {-1, -2, 39, 40, 256, 65536, Integer.MAX_VALUE, Integer.MIN_VALUE}) {
                answers(-2, name, question, owner, piece);
            }
        }
    }

    private static void answers(int want, String name, Question question, int owner, int piece) {
        due.unchanged(Due.call(name, owner, piece), want, x -> question.of(x, owner, piece));
    }
}
