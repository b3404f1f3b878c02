import java.lang.management.ManagementFactory;

/** All calls of a run share one room, in which nothing is given back: a call takes nothing of it once its rows are made. */
public final class RoomTest {
    private static final Checks c = new Checks();
    private static final com.sun.management.ThreadMXBean BEAN =
            (com.sun.management.ThreadMXBean) ManagementFactory.getThreadMXBean();

    private static final String LAND = "church a;inn b;inn c;inn d;inn e;inn f;inn g;inn h;inn i;port p 6 0 6;"
            + "road a b 30 1;road b c 30 1;road c d 30 1;road d e 30 1;road e f 30 1;road f g 30 1;road g h 30 1;road h i 30 1;"
            + "road i p 30 1 ford;man ma a 20 1;man mb a 20 1;man mc a 20 1;man md a 20 1;man me a 20 1;man mf a 20 1;";

    public static void main(String[] args) {
        // What the machine itself takes when a class is used for the first time does not count.
        use(new RoadToPort());
        long before = taken();
        RoadToPort x = new RoadToPort();
        long object = taken() - before;
        System.out.println(object + " bytes an object");
        c.is("an object takes " + object + " bytes, at most 40000", object <= 40000, true);
        use(x);
        before = taken();
        for (int k = 0; k < 6; k++) {
            use(x);
        }
        long calls = taken() - before;
        c.is("calls take " + calls + " bytes of the room, at most 2000", calls <= 2000, true);
        c.close("RoomTest");
    }

    private static long taken() {
        return BEAN.getCurrentThreadAllocatedBytes();
    }

    private static final int[] LAND_NUMBERS = numbers(LAND);
    private static final int[] BOOK_NUMBERS = numbers("ma orders 3;day 1;mb gets 9;mf slips;");
    private static final int[] SENTENCE_NUMBERS = numbers("not (walks and coin < 5) or at b or to p and kin");

    private static int[] numbers(String text) {
        int[] n = new int[(text.length() + 19) / 20 * 5];
        for (int i = 0; i < n.length * 4; i++) {
            n[i / 4] = n[i / 4] << 8 | (i < text.length() ? text.charAt(i) : ' ');
        }
        return n;
    }

    private static void tell(RoadToPort x, int[] n) {
        for (int k = 0; k < n.length; k += 5) {
            x.feed(n[k], n[k + 1], n[k + 2], n[k + 3], n[k + 4]);
        }
    }

    /** Each call at its dearest. */
    private static void use(RoadToPort x) {
        tell(x, LAND_NUMBERS);
        x.land();
        x.sent();
        x.cut(0, 9);
        x.way(0, 9);
        x.worst(0, 9);
        for (int m = 0; m < 6; m++) {
            x.swear(m, 9, 12);
        }
        x.plan(0, 0);
        x.odds(0, 30, 1);
        x.oath(0);
        x.there(0);
        x.ship(9, 8, 0);
        tell(x, SENTENCE_NUMBERS);
        x.sentence();
        x.said(-1);
        tell(x, BOOK_NUMBERS);
        x.book(0);
        tell(x, BOOK_NUMBERS);
        x.book(1);
        x.feed(0, 0, 0, 0, 0);
        x.turned(0);
        x.image(0);
        x.image(1);
        for (int k = 0; k < 10; k++) {
            x.get(0, 1);
            x.days(1, k);
        }
        x.undo();
        x.restore(0);
        x.restore(1);
        x.place(0, 4);
        x.now(2);
        x.man(0, 8);
    }
}
