import java.util.Map;
import java.util.NoSuchElementException;

/**
 * Each way in which a call is refused, and that all stays as it was behind it: of two objects with the same calls behind them
 * one is asked what is refused, then both are read to the ground.
 */
public final class RefusalsTest {
    private static final Checks c = new Checks();
    private static final int MIN = Integer.MIN_VALUE;
    private static final int MAX = Integer.MAX_VALUE;
    private static final int[] NO_SUCH = {-1, 6, 10, MIN, MAX};
    private static final String TAPE = "church q;inn r;man z q 1 1;";

    private interface Making {
        RoadToPort make();
    }

    private interface Call {
        long answer(RoadToPort x);
    }

    public static void main(String[] args) {
        bothAlike();
        tape();
        looks();
        acts();
        actsOfWhom();
        days();
        nothingToUndo();
        asks();
        throwing();
        sentNever();
        cutTooDear();
        tracks();
        texts();
        otherBooks();
        images();
        c.close("RefusalsTest");
    }

    /** All that can be told is told, four acts can be undone, both images are kept, a LAND is on the tape. */
    private static RoadToPort rich() {
        RoadToPort x = Stage.six();
        x.image(0);
        x.cut(0, 1);
        x.way(4, 3);
        x.sent();
        x.swear(0, Stage.PORT, 9);
        x.plan(0, 0);
        x.feed(0x01020000, 0, 0, 0, 0);
        x.end(2);
        x.turned(1);
        x.oath(1);
        Checks.sentence(x, "walks or kin");
        x.image(1);
        Checks.book(x, "cat slips;", 0);
        x.get(2, 3);
        x.order(1, 2);
        Checks.tell(x, TAPE);
        return x;
    }

    private static long answer(RoadToPort x, Call call) {
        try {
            return call.answer(x);
        } catch (NoSuchElementException e) {
            return Checks.THROWS;
        }
    }

    /** What the call answers, and that one object is as the other, for which the second call did what the first may do. */
    private static void refused(String what, Making making, Call call, long due, Call instead, boolean faultsAlike) {
        RoadToPort x = making.make();
        RoadToPort y = making.make();
        c.is(what, answer(x, call), due);
        answer(y, instead);
        Map<String, Long> one = Ground.of(x);
        Map<String, Long> other = Ground.of(y);
        if (!faultsAlike) {
            one.put("fault()", 0L);
            other.put("fault()", 0L);
        }
        c.is("as much is told behind " + what, one.size(), other.size());
        for (Map.Entry<String, Long> e : other.entrySet()) {
            c.is("behind " + what + ": " + e.getKey(), one.getOrDefault(e.getKey(), Long.MIN_VALUE), e.getValue());
        }
    }

    private static void stays(String what, Call call, long due) {
        refused(what, RefusalsTest::rich, call, due, x -> 0, true);
    }

    /** The tape is read, and so it is empty then; all else stays. */
    private static void staysButTape(String what, String text, Call call, long due) {
        refused(what + " of \"" + text + "\"", () -> {
            RoadToPort x = rich();
            x.end(0);
            Checks.tell(x, text);
            return x;
        }, call, due, x -> x.end(0) ? 1 : 0, false);
    }

    private static long bit(boolean b) {
        return b ? 1 : 0;
    }

    private static void bothAlike() {
        c.says("A call that throws changes nothing.");
        RoadToPort x = rich();
        Map<String, Long> all = Ground.of(x);
        c.is("all of it within 512 calls, of which rich() takes not 100", all.size() + 100 <= 512, true);
        c.is("acts that can be undone", all.get("0 undone: undo()"), 3);
        c.is("the last of them", all.get("4 undone: undo()"), -1);
        c.is("the tape's LAND", all.get("land() of the tape"), 3);
        c.is("the first image", all.get("place 0: restore()"), 1);
        c.is("the second image", all.get("place 1: said(-1)"), 2);
        for (String key : new String[] {"wayAt(0)", "planAt(0)", "sentTo(0)", "byteAt(0)", "told(0)", "cutting()", "least()"}) {
            c.is(key + " is told", all.get(key) >= 0, true);
        }
    }

    // ---- the tape ----

    private static void tape() {
        c.says("NONE, and none come, if it would have more than 940.");
        for (int has : new int[] {921, 930, 940}) {
            refused("feed() behind " + has, () -> {
                RoadToPort x = Checks.landOf("church a;port p 1 1 1;man t a 1 1;");
                Checks.tell(x, " ".repeat(900) + "church b;inn d;man u b 1 1;" + " ".repeat(13));
                x.end(has);
                return x;
            }, x -> x.feed(0x3b3b3b3b, 0x3b3b3b3b, 0x3b3b3b3b, 0x3b3b3b3b, 0x3b3b3b3b), -1, x -> 0, true);
        }
        c.says("true; false, if it has not so many, or n is below 0.");
        for (int n : new int[] {-1, TAPE.length() + 1, 940, MIN, MAX}) {
            stays("end(" + n + ")", x -> bit(x.end(n)), 0);
        }
        stays("end(all)", x -> bit(x.end(TAPE.length())), 1);
    }

    // ---- what only looks ----

    private static void looks() {
        c.says("NONE: no such ones.");
        for (int p : NO_SUCH) {
            stays("place(" + p + ", 0)", x -> x.place(p, 0), -1);
            stays("place(" + p + ", 4)", x -> x.place(p, 4), -1);
            stays("road(" + p + ", 2, 0)", x -> x.road(p, 2, 0), -1);
            stays("road(2, " + p + ", 0)", x -> x.road(2, p, 0), -1);
            stays("oath(" + p + ")", x -> x.oath(p), -1);
            stays("there(" + p + ")", x -> x.there(p), -1);
            stays("sentTo(" + p + ")", x -> x.sentTo(p), -1);
        }
        for (int what : new int[] {-1, 5, MIN, MAX}) {
            stays("place(0, " + what + ")", x -> x.place(0, what), -1);
            stays("road(0, 2, " + what + ")", x -> x.road(0, 2, what), -1);
            stays("count(" + what + ")", x -> x.count(what), -1);
            stays("told(" + what + ")", x -> x.told(what), -1);
        }
        for (int what : new int[] {-1, 7, MIN, MAX}) {
            stays("now(" + what + ")", x -> x.now(what), -1);
        }
        for (int k : new int[] {-2, 2, 3, MIN, MAX}) {
            stays("said(" + k + ")", x -> x.said(k), -1);
        }
        for (int k : new int[] {-1, 40, MIN, MAX}) {
            stays("wayAt(" + k + ")", x -> x.wayAt(k), -1);
            stays("planAt(" + k + ")", x -> x.planAt(k), -1);
            stays("byteAt(" + k + ")", x -> x.byteAt(k), -1);
        }
        stays("road(2, 2, 0)", x -> x.road(2, 2, 0), -1);
        stays("road(0, 1, 0)", x -> x.road(0, 1, 0), -1);
    }

    // ---- acts ----

    private static void acts() {
        c.says("0, or why not; NONE: no such ones");
        for (int m : NO_SUCH) {
            stays("swear(" + m + ", 1, 9)", x -> x.swear(m, 1, 9), -1);
            stays("order(" + m + ", 1)", x -> x.order(m, 1), -1);
            stays("slip(" + m + ")", x -> x.slip(m), -1);
            stays("enter(" + m + ")", x -> x.enter(m), -1);
            stays("get(" + m + ", 9)", x -> x.get(m, 9), -1);
        }
        for (int p : new int[] {Stage.CHURCH, Stage.INN, Stage.CELL, -1, 6, MIN, MAX}) {
            stays("swear(1, " + p + ", 9)", x -> x.swear(1, p, 9), -1);
        }
        for (int d : new int[] {0, 41, MIN, MAX}) {
            stays("swear(1, 1, " + d + ")", x -> x.swear(1, 1, d), -1);
        }
        for (int n : new int[] {-1, 21, MIN, MAX}) {
            stays("order(1, " + n + ")", x -> x.order(1, n), -1);
        }
        for (int n : new int[] {0, 100, MIN, MAX}) {
            stays("get(0, " + n + ")", x -> x.get(0, n), -1);
        }
        stays("order(1, 5)", x -> x.order(1, 5), 2);
        stays("order(1, 2)", x -> x.order(1, 2), 3);
        stays("enter(1)", x -> x.enter(1), 2);
        // In church again he may swear, but not without a road, and not a third time.
        Making safe = () -> {
            RoadToPort x = Checks.landOf(Stage.LAND);
            x.swear(0, Stage.PORT, 9);
            x.enter(0);
            return x;
        };
        refused("no road", safe, x -> x.swear(0, Stage.FAR, 9), 2, x -> 0, true);
        refused("no such port", safe, x -> x.swear(0, Stage.INN, 9), -1, x -> 0, true);
        refused("no such DAYS", safe, x -> x.swear(0, Stage.PORT, 41), -1, x -> 0, true);
        Making twice = () -> {
            RoadToPort x = safe.make();
            x.swear(0, Stage.QUAY, 9);
            x.enter(0);
            return x;
        };
        refused("sworn twice", twice, x -> x.swear(0, Stage.PORT, 9), 3, x -> 0, true);
        refused("sworn twice, no road", twice, x -> x.swear(0, Stage.FAR, 9), 2, x -> 0, true);
    }

    private static void actsOfWhom() {
        c.says("1 he has SAILED, is an OUTLAW, or SLAIN");
        for (int m = 0; m < 6; m++) {
            int who = m;
            // The first of them WALKS in rich(), as the second does.
            stays("swear(" + m + ", 1, 9)", x -> x.swear(who, 1, 9), 1);
            if (m > 1) {
                stays("order(" + m + ", 1)", x -> x.order(who, 1), 1);
                stays("slip(" + m + ")", x -> x.slip(who), 1);
                stays("enter(" + m + ")", x -> x.enter(who), 1);
            }
            if (m > 2) {
                stays("get(" + m + ", 9)", x -> x.get(who, 9), 1);
            }
        }
        refused("order() of a SAFE one", Stage::six, x -> x.order(0, 1), 1, x -> 0, true);
        refused("slip() of a SAFE one", Stage::six, x -> x.slip(0), 1, x -> 0, true);
        refused("enter() of a SAFE one", Stage::six, x -> x.enter(0), 1, x -> 0, true);
    }

    private static void days() {
        c.says("how many went by; NONE: not as told.");
        for (int n : new int[] {0, -1, 31, MIN, MAX}) {
            stays("days(" + n + ", 1)", x -> x.days(n, 1), -1);
        }
        Making over = () -> {
            RoadToPort x = Stage.six();
            Checks.book(x, "day 30;".repeat(13), 1);
            x.days(30, 1);
            x.get(0, 5);
            return x;
        };
        c.is("all are over", over.make().now(0), 400);
        refused("days(1, 1) on DAY 400", over, x -> x.days(1, 1), 0, x -> 0, true);
        refused("days(30, 1) on DAY 400", over, x -> x.days(30, 1), 0, x -> 0, true);
        refused("days(31, 1) on DAY 400", over, x -> x.days(31, 1), -1, x -> 0, true);
    }

    private static void nothingToUndo() {
        c.says("NONE: none is.");
        Making bare = () -> {
            RoadToPort x = rich();
            while (x.undo() > 0) {
                c.is("acts are left", x.count(2), 6);
            }
            return x;
        };
        refused("undo() of none", bare, x -> x.undo(), -1, x -> 0, true);
    }

    // ---- what is asked ----

    private static void asks() {
        c.says("NONE: likewise.");
        for (int p : NO_SUCH) {
            stays("far(0, " + p + ")", x -> x.far(0, p), -1);
            stays("far(" + p + ", 0)", x -> x.far(p, 0), -1);
            stays("way(0, " + p + ")", x -> x.way(0, p), -1);
            stays("way(" + p + ", 0)", x -> x.way(p, 0), -1);
            stays("cut(0, " + p + ")", x -> x.cut(0, p), -1);
            stays("cut(" + p + ", 0)", x -> x.cut(p, 0), -1);
            stays("worst(0, " + p + ")", x -> x.worst(0, p), -1);
            stays("worst(" + p + ", 0)", x -> x.worst(p, 0), -1);
            stays("odds(" + p + ", 1, 1)", x -> x.odds(p, 1, 1), -1);
        }
        stays("far(0, 5)", x -> x.far(0, 5), -1);
        stays("way(0, 5)", x -> x.way(0, 5), -1);
        stays("way(5, 0)", x -> x.way(5, 0), -1);
        stays("cut(2, 2)", x -> x.cut(2, 2), -1);
        stays("worst(0, 5)", x -> x.worst(0, 5), -1);
        stays("worst(2, 2)", x -> x.worst(2, 2), -1);
        for (int n : new int[] {0, -1, 31, MIN, MAX}) {
            stays("odds(1, " + n + ", 1)", x -> x.odds(1, n, 1), -1);
        }
        for (int m = 2; m < 6; m++) {
            int who = m;
            stays("there(" + m + ")", x -> x.there(who), -1);
        }
        // What is answered, and changes nothing.
        c.says("a book judged line by line");
        stays("odds(1, 30, 7)", x -> bit(x.odds(1, 30, 7) >= 0), 1);
        stays("ship(1, 8, 0)", x -> x.ship(1, 8, 0), 1);
        stays("far(0, 1)", x -> x.far(0, 1), 9);
        stays("worst(0, 1)", x -> x.worst(0, 1), 0);
        stays("there(1)", x -> x.there(1), 3);
        stays("said(-1)", x -> x.said(-1), 2);
        stays("feed() and end()", x -> x.feed(0, 0, 0, 0, 0) > 0 && x.end(TAPE.length()) ? 1 : 0, 1);
    }

    private static void throwing() {
        c.says("A call that throws changes nothing.");
        for (int m : NO_SUCH) {
            stays("man(" + m + ", 0)", x -> x.man(m, 0), Checks.THROWS);
            stays("plan(" + m + ", 0)", x -> x.plan(m, 0), Checks.THROWS);
            stays("ship(" + m + ", 1, 0)", x -> x.ship(m, 1, 0), Checks.THROWS);
        }
        for (int m = 1; m < 6; m++) {
            int who = m;
            // The second WALKS, but has too many DAYS.
            stays("plan(" + m + ", 0)", x -> x.plan(who, 0), Checks.THROWS);
        }
        for (int what : new int[] {-1, 14, MIN, MAX}) {
            stays("man(0, " + what + ")", x -> x.man(0, what), Checks.THROWS);
            stays("plan(0, " + what + ")", x -> x.plan(0, what), Checks.THROWS);
            stays("ship(1, 1, " + what + ")", x -> x.ship(1, 1, what), Checks.THROWS);
        }
        stays("plan(0, 2)", x -> x.plan(0, 2), Checks.THROWS);
        stays("ship(1, 1, 2)", x -> x.ship(1, 1, 2), Checks.THROWS);
        for (int n : new int[] {-1, 9, MIN, MAX}) {
            stays("ship(1, " + n + ", 0)", x -> x.ship(1, n, 0), Checks.THROWS);
        }
        for (int p : new int[] {Stage.CHURCH, Stage.INN, Stage.CELL}) {
            stays("ship(" + p + ", 1, 0)", x -> x.ship(p, 1, 0), Checks.THROWS);
        }
    }

    private static void sentNever() {
        c.says("SENT: MILES in all; NONE: it can't be.");
        Making full = () -> {
            RoadToPort x = Checks.landOf("church a;port p 1 1 1;road a p 2 0;man s a 5 0;man t a 5 0;");
            x.swear(0, 1, 9);
            x.sent();
            x.undo();
            return x;
        };
        c.is("it was told ahead", full.make().sentTo(1), 1);
        refused("sent() of two to one", full, x -> x.sent(), -1, x -> 0, true);
        Making apart = () -> {
            RoadToPort x = rich();
            x.end(0);
            Checks.land(x, "church a;church b;port p 1 1 6;road a p 2 0;man s a 5 0;man t b 5 0;");
            return x;
        };
        refused("sent() without a road", apart, x -> x.sent(), -1, x -> 0, true);
    }

    private static void cutTooDear() {
        c.says("NONE: more than 4");
        Making thick = () -> {
            RoadToPort x = Checks.landOf("church a;inn b;inn d;inn e;inn f;inn g;port z 1 1 1;road a b 1 0;road a d 1 0;road a e 1 0;"
                    + "road a f 1 0;road a g 1 0;road b z 1 0;road d z 1 0;road e z 1 0;road f z 1 0;road g z 1 0;");
            x.cut(1, 0);
            return x;
        };
        c.is("it was told ahead", thick.make().cutting(), 33);
        refused("cut() of five", thick, x -> x.cut(0, 6), -1, x -> 0, true);
    }

    private static void tracks() {
        c.says("NONE: he does not WALK, not as told (none above the MILES of his WAY), no such one.");
        String two = "\1\2";
        for (int m : NO_SUCH) {
            staysButTape("turned(" + m + ")", two, x -> x.turned(m), -1);
        }
        for (int m = 2; m < 6; m++) {
            int who = m;
            staysButTape("turned(" + m + ")", two, x -> x.turned(who), -1);
        }
        staysButTape("turned(1)", "", x -> x.turned(1), -1);
        staysButTape("turned(1)", "\1", x -> x.turned(1), -1);
        staysButTape("turned(1)", "\1".repeat(21), x -> x.turned(1), -1);
        staysButTape("turned(1)", "\1\12", x -> x.turned(1), -1);
        staysButTape("turned(1)", "\u00ff\u00ff", x -> x.turned(1), -1);
        c.says("The least of these by the latest turned() above 0");
        staysButTape("turned(1)", "\1\7", x -> x.turned(1), 0);
        staysButTape("turned(1)", "\2\1\2", x -> x.turned(1), 0);
    }

    // ---- texts ----

    private static void texts() {
        c.says("-1 less the place of a FAULT: the LAND before stays.");
        String good = "church w;inn v;road w v 1 1;man u w 1 1;kin u;";
        String[] lands = {"x", ";", "church", good + "church w;", good + "port p 13 1 1;", good + "road w v 1 1;", good + "kin u;",
            good + "day 1;", "church a;inn b;inn c;inn d;inn e;inn f;inn g;inn h;inn i;inn j;inn k;", good + " ".repeat(860)};
        int[] places = {0, 0, 6, 53, 53, 53, 50, 46, 63, 900};
        for (int k = 0; k < lands.length; k++) {
            staysButTape("land()", lands[k], x -> x.land(), -1 - places[k]);
        }
        c.says("-2 less the place of a FAULT");
        String[] books = {"x;", "day 1;day 0;", "ann slips;cat gets 9;ann", "bob slips;bob swears bell 5;", "day 1;".repeat(41),
            "cat gets 9;".repeat(36) + "     "};
        int[] at = {0, 10, 24, 21, 240, 400};
        for (int k = 0; k < books.length; k++) {
            staysButTape("book(1)", books[k], x -> x.book(1), -2 - at[k]);
            staysButTape("book(0)", books[k], x -> x.book(0), -2 - at[k]);
        }
        c.says("-1 less the place of a FAULT: the SENTENCE before stays.");
        String[] sentences = {"", "safe safe", "slain or at x", "coin<1000", "slain" + " or slain".repeat(20),
            "not not not not not not not not kin", "slain" + " ".repeat(196)};
        int[] where = {0, 5, 12, 5, 180, 32, 200};
        for (int k = 0; k < sentences.length; k++) {
            staysButTape("sentence()", sentences[k], x -> x.sentence(), -1 - where[k]);
        }
    }

    private static void otherBooks() {
        c.says("-1000: another lives (the tape stays)");
        for (int lives : new int[] {-1, 2, MIN, MAX}) {
            stays("book(" + lives + ")", x -> x.book(lives), -1000);
        }
        // What is only judged, and what is lived in none of its LINES, changes nothing but what is told.
        c.says("it is judged, all staying as it is (lives 0)");
        for (int lives = 0; lives < 2; lives++) {
            int how = lives;
            refused("a BOOK of which no LINE is lived, lives " + lives, () -> {
                RoadToPort x = rich();
                x.end(0);
                Checks.tell(x, "cat slips;day 1;bob slips;");
                return x;
            }, x -> x.book(how), 0, x -> x.end(0) ? 1 : 0, true);
        }
        String book = "bob slips;day 30;cat gets 99;ann gets 1;cat slips;";
        refused("a BOOK that is judged", () -> {
            RoadToPort x = rich();
            x.end(0);
            Checks.book(x, book, 0);
            return x;
        }, x -> Checks.book(x, book, 0), 4, x -> 0, true);
    }

    private static void images() {
        c.says("true; false: no such one, or nothing is kept there.");
        for (int k : new int[] {-1, 2, MIN, MAX}) {
            stays("image(" + k + ")", x -> bit(x.image(k)), 0);
            stays("restore(" + k + ")", x -> bit(x.restore(k)), 0);
        }
        for (int k = 0; k < 2; k++) {
            int which = k;
            refused("restore(" + k + ") of nothing", () -> {
                RoadToPort x = Stage.six();
                x.image(1 - which);
                x.get(0, 5);
                Checks.tell(x, TAPE);
                return x;
            }, x -> bit(x.restore(which)), 0, x -> 0, true);
        }
    }
}
