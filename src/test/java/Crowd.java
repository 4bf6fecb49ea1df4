/** An object on which every refusal can be met, and all that can be told of it. */
final class Crowd {
    static final String UNCHANGED = """
        owner 0 2222222222000000000000000000000000000000 waiting 0 for 0 ahead -2 pieces 1 bytes without 30
        owner 1 0000000000111111111100000000000000000002 waiting 1 for 1 ahead 0 pieces 2 bytes without 29
        owner 2 0000000000111110000000000000000000000000 waiting 1 for 3 ahead 1 pieces 1 bytes without 35
        owner 3 0000000000000000000011111111110000000000 waiting 0 for 0 ahead -2 pieces 1 bytes without 30
        owner 4 0000000000000000000000000000000000000000 waiting 0 for 0 ahead -2 pieces 0 bytes without 40
        close(0) 10, then 1 has 5 .. 19, close(1) 16
        owner 0 0000000000000000000000000000000000000000 waiting 0 for 0 ahead -2 pieces 0 bytes without 40
        owner 1 0000000000000000000000000000000000000000 waiting 0 for 0 ahead -2 pieces 0 bytes without 40
        owner 2 0000000002211110000000000000000000000000 waiting 0 for 0 ahead -2 pieces 2 bytes without 34
        owner 3 0000000000000000000011111111110000000000 waiting 0 for 0 ahead -2 pieces 1 bytes without 30
        owner 4 0000000000000000000000000000000000000000 waiting 0 for 0 ahead -2 pieces 0 bytes without 40
        """;

    private Crowd() {
    }

    /** 1 waits for 0, and 2 for both; 3 has locks and 4 has none, and neither waits. */
    static RecordLocks made() {
        RecordLocks x = new RecordLocks();
        x.lock(0, 0, 10, 2);
        x.lock(1, 10, 10, 1);
        x.lock(1, 39, 1, 2);
        x.lock(2, 10, 5, 1);
        x.lock(3, 20, 10, 1);
        x.await(1, 5, 10, 1);
        x.await(2, 9, 2, 2);
        return x;
    }

    /** The state, and what comes of the requests, which can't be asked; takes 454 of the object's 512 calls. */
    static String told(RecordLocks x) {
        String now = Due.state(x);
        String granted = "close(0) " + x.close(0) + ", then 1 has " + x.pieceStart(1, 0) + " .. " + x.pieceEnd(1, 0);
        return now + granted + ", close(1) " + x.close(1) + "\n" + Due.state(x);
    }
}
