/** Promise 8: obstacle. */
public final class ObstacleTest {
    public static void main(String[] args) {
        Due due = new Due();
        RecordLocks x = new RecordLocks();
        due.is("obstacle(0, 0, 40, 2) when new", -4, x.obstacle(0, 0, 40, 2));
        x.lock(1, 10, 5, 1);
        x.lock(3, 20, 5, 2);
        x.lock(2, 12, 2, 1);
        due.is("writing meets READ", 10, x.obstacle(0, 0, 40, 2));
        due.is("reading meets WRITE alone", 20, x.obstacle(0, 0, 40, 1));
        due.is("from inside", 13, x.obstacle(0, 13, 5, 2));
        due.is("the last byte of the range", 10, x.obstacle(0, 5, 6, 2));
        due.is("one byte short", -4, x.obstacle(0, 5, 5, 2));
        due.is("behind READ", -4, x.obstacle(0, 15, 5, 2));
        due.is("the last byte of a lock", 24, x.obstacle(0, 24, 16, 1));
        due.is("behind WRITE", -4, x.obstacle(0, 25, 15, 2));
        due.is("own locks are none", 12, x.obstacle(1, 0, 40, 2));
        due.is("own WRITE is none", -4, x.obstacle(3, 0, 40, 1));
        due.is("two readers", 10, x.obstacle(2, 0, 40, 2));
        x.lock(4, 0, 1, 2);
        x.lock(0, 39, 1, 2);
        due.is("byte 0", 0, x.obstacle(0, 0, 1, 1));
        due.is("byte 39", 39, x.obstacle(4, 39, 1, 2));

        due.is("await(1, 20, 1, 1)", 1, x.await(1, 20, 1, 1));
        due.is("a waiting owner may ask", 20, x.obstacle(1, 1, 39, 1));
        due.is("what it waits for is no obstacle", -4, x.obstacle(3, 20, 1, 2));

        due.is("all wrong", -1, x.obstacle(5, -1, 0, 0));
        due.is("owner -1", -1, x.obstacle(-1, 0, 1, 1));
        due.is("range before type", -2, x.obstacle(0, 0, 41, 0));
        due.is("range over the end", -2, x.obstacle(0, 39, 2, 1));
        due.is("type NONE", -3, x.obstacle(0, 0, 40, 0));
        due.is("type 3", -3, x.obstacle(0, 0, 40, 3));
        due.is("type before none there", -3, x.obstacle(0, 30, 1, -1));
        due.end();
    }
}
