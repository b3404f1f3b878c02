/** A LAND with a MAN of each way that a MAN can be, on DAY 2; and the draws of a seed, worked out without ints that wrap. */
final class Stage {
    static final int CHURCH = 0;
    static final int PORT = 1;
    static final int INN = 2;
    static final int CELL = 3;
    static final int QUAY = 4;
    static final int FAR = 5;

    static final int SAFE = 0;
    static final int WALKS = 1;
    static final int WAITS = 2;
    static final int SAILED = 3;
    static final int OUTLAW = 4;
    static final int SLAIN = 5;

    static final String LAND = "church abbey;port p 12 50 1;inn bell;church cell;port quay 12 0 2;port far 1 1 1;"
            + "road abbey bell 4 12;road bell p 5 0;road bell cell 2 0 ford;road abbey quay 2 0;"
            + "man ann abbey 4 7;man bob abbey 4 7;man cat abbey 20 7;man dan abbey 2 7;man eve abbey 2 7;man fox abbey 2 7;kin ann;";

    static final String BOOK = "cat swears p 9;dan swears quay 9;eve swears quay 9;eve slips;fox swears p 9;bob swears p 20;"
            + "day 1;bob orders 1;day 1;";

    private Stage() {
    }

    /** MAN 0 is SAFE, 1 WALKS (5 of 9 MILES gone), 2 WAITS, 3 has SAILED, 4 is an OUTLAW, 5 is SLAIN. */
    static RoadToPort six() {
        RoadToPort x = Checks.landOf(LAND);
        if (Checks.book(x, BOOK, 1) != -1) {
            throw new AssertionError("the book of the stage is wrong");
        }
        for (int m = 0; m < 6; m++) {
            if (x.man(m, 0) != m) {
                throw new AssertionError("MAN " + m + " is " + x.man(m, 0));
            }
        }
        return x;
    }

    /** The draws of a seed, one behind the other. */
    static final class Draws {
        private long x;

        Draws(int seed) {
            x = seed & 0xffffffffL;
        }

        int next(int n) {
            x = (x * 1103515245L + 12345L) % 4294967296L;
            return (int) (x / 256 % n);
        }
    }

    /** A seed whose first draw of n is just this one. */
    static int seedOf(int n, int draw) {
        for (int seed = 1; seed < 100000; seed++) {
            if (new Draws(seed).next(n) == draw) {
                return seed;
            }
        }
        throw new AssertionError("no such seed");
    }
}
