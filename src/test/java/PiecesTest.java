/** Promises 13 to 16: pieces, pieceStart, pieceEnd and pieceType. */
public final class PiecesTest {
    private static final Due due = new Due();

    public static void main(String[] args) {
        nonePieces();
        wholeRange();
        bordersOfType();
        piecesGrowTogetherAndFallApart();
        mostPieces();
        ownersApart();
        refusals();
        due.end();
    }

    /** Each piece is told as start, end, type. */
    private static void pieces(RecordLocks x, int owner, int... told) {
        int many = told.length / 3;
        due.is("pieces(" + owner + ")", many, x.pieces(owner));
        for (int piece = 0; piece < many; piece++) {
            String arguments = "(" + owner + ", " + piece + ")";
            due.is("pieceStart" + arguments, told[3 * piece], x.pieceStart(owner, piece));
            due.is("pieceEnd" + arguments, told[3 * piece + 1], x.pieceEnd(owner, piece));
            due.is("pieceType" + arguments, told[3 * piece + 2], x.pieceType(owner, piece));
        }
        noPiece(x, owner, many);
        noPiece(x, owner, -1);
    }

    private static void noPiece(RecordLocks x, int owner, int piece) {
        String arguments = "(" + owner + ", " + piece + ")";
        due.is("pieceStart" + arguments, -2, x.pieceStart(owner, piece));
        due.is("pieceEnd" + arguments, -2, x.pieceEnd(owner, piece));
        due.is("pieceType" + arguments, -2, x.pieceType(owner, piece));
    }

    private static void nonePieces() {
        RecordLocks x = new RecordLocks();
        for (int owner = 0; owner < 5; owner++) {
            pieces(x, owner);
        }
    }

    private static void wholeRange() {
        RecordLocks x = new RecordLocks();
        x.lock(0, 0, 40, 2);
        pieces(x, 0, 0, 39, 2);
        x.lock(0, 39, 1, 1);
        pieces(x, 0, 0, 38, 2, 39, 39, 1);
        x.lock(0, 0, 1, 0);
        pieces(x, 0, 1, 38, 2, 39, 39, 1);
    }

    private static void bordersOfType() {
        RecordLocks x = new RecordLocks();
        x.lock(1, 5, 3, 1);
        x.lock(1, 8, 3, 2);
        x.lock(1, 11, 3, 1);
        x.lock(1, 15, 3, 1);
        pieces(x, 1, 5, 7, 1, 8, 10, 2, 11, 13, 1, 15, 17, 1);
    }

    private static void piecesGrowTogetherAndFallApart() {
        RecordLocks x = new RecordLocks();
        x.lock(3, 5, 5, 1);
        x.lock(3, 15, 5, 1);
        x.lock(3, 10, 5, 1);
        pieces(x, 3, 5, 19, 1);
        x.lock(3, 12, 1, 0);
        pieces(x, 3, 5, 11, 1, 13, 19, 1);
        x.lock(3, 12, 1, 2);
        pieces(x, 3, 5, 11, 1, 12, 12, 2, 13, 19, 1);
        x.close(3);
        pieces(x, 3);
    }

    private static void mostPieces() {
        RecordLocks x = new RecordLocks();
        int[] told = new int[120];
        for (int at = 0; at < 40; at++) {
            int type = 1 + at % 2;
            x.lock(2, at, 1, type);
            told[3 * at] = at;
            told[3 * at + 1] = at;
            told[3 * at + 2] = type;
        }
        pieces(x, 2, told);
    }

    private static void ownersApart() {
        RecordLocks x = new RecordLocks();
        x.lock(0, 35, 5, 1);
        x.lock(1, 0, 5, 1);
        x.lock(1, 35, 5, 1);
        x.lock(2, 0, 5, 1);
        pieces(x, 0, 35, 39, 1);
        pieces(x, 1, 0, 4, 1, 35, 39, 1);
        pieces(x, 2, 0, 4, 1);
    }

    private static void refusals() {
        RecordLocks x = new RecordLocks();
        x.lock(0, 0, 1, 1);
        int[] badOwners = {-1, 5, 6, Integer.MAX_VALUE, Integer.MIN_VALUE};
        int[] badPieces = {-1, 1, 2, 40, Integer.MAX_VALUE, Integer.MIN_VALUE};
        for (int owner : badOwners) {
            due.is("pieces(" + owner + ")", -1, x.pieces(owner));
            for (int piece = -1; piece < 2; piece++) {
                String arguments = "(" + owner + ", " + piece + ")";
                due.is("pieceStart" + arguments, -1, x.pieceStart(owner, piece));
                due.is("pieceEnd" + arguments, -1, x.pieceEnd(owner, piece));
                due.is("pieceType" + arguments, -1, x.pieceType(owner, piece));
            }
        }
        for (int piece : badPieces) {
            noPiece(x, 0, piece);
        }
    }
}
