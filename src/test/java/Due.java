/** Counts and prints the answers that are not as due. */
final class Due {
    private int wrong = 0;

    void is(String call, Object want, Object got) {
        if (!want.equals(got)) {
            wrong++;
            System.out.println(call + " answered " + got + ", due is " + want);
        }
    }

    int count() {
        return wrong;
    }

    /** Ends the program with exit code 1 if an answer was wrong. */
    void end() {
        System.out.println(wrong == 0 ? "all answers are as due" : wrong + " answers are not as due");
        if (wrong != 0) {
            System.exit(1);
        }
    }

    /** All that can be asked of an object's state, in 225 of the 512 calls an object has. */
    static String state(RecordLocks x) {
        StringBuilder told = new StringBuilder();
        for (int owner = 0; owner < 5; owner++) {
            told.append("owner ").append(owner).append(' ');
            for (int at = 0; at < 40; at++) {
                told.append(x.lockAt(owner, at));
            }
            told.append(" waiting ").append(x.waiting(owner));
            told.append(" for ").append(x.waitsFor(owner));
            told.append(" ahead ").append(x.ahead(owner));
            told.append(" pieces ").append(x.pieces(owner)).append(" bytes without ");
            told.append(x.count(owner, RecordLocks.NONE)).append("\n");
        }
        return told.toString();
    }
}
