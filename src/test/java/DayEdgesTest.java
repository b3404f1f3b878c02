/** Each sentence on acts and on DAYS that names a boundary, in the document's order. */
public final class DayEdgesTest {
    private static final Checks c = new Checks();
    private static final int MIN = Integer.MIN_VALUE;
    private static final int MAX = Integer.MAX_VALUE;

    public static void main(String[] args) {
        howTheyAre();
        swearing();
        swornTwice();
        whoseChurch();
        secondOath();
        ordering();
        slipping();
        entering();
        enteringOnTheWay();
        getting();
        manyDays();
        allAreOver();
        draws();
        seedsWrap();
        ships();
        pay();
        milesOfADay();
        fords();
        whereFordsAre();
        nineRoads();
        held();
        nights();
        danger();
        whereDangerIs();
        atThePort();
        daysThatHeHas();
        manByMan();
        undoing();
        eightAreKept();
        whatIsUndone();
        c.close("DayEdgesTest");
    }

    private static void man(RoadToPort x, int m, int... due) {
        for (int what = 0; what < due.length; what++) {
            c.is("man(" + m + ", " + what + ")", x.man(m, what), due[what]);
        }
    }

    /** A church, an inn, a port, one road behind the other; one MAN. */
    private static RoadToPort walker(String roadToInn, String roadToPort, int pace, int days) {
        RoadToPort x = Checks.landOf("church a;inn b;port p 0 0 1;road a b " + roadToInn + ";road b p " + roadToPort
                + ";man t a " + pace + " 5;");
        x.swear(0, 2, days);
        return x;
    }

    // ---- acts ----

    private static void howTheyAre() {
        c.says("A MAN is SAFE in a church, WALKS, WAITS at a port, has SAILED, is an OUTLAW, or SLAIN (the last three for good).");
        RoadToPort x = Stage.six();
        for (int what = 1; what < 7; what++) {
            c.is("now(" + what + ")", x.now(what), 1 << what - 1);
        }
        man(x, 0, 0, 4, 7, 1, 0, -1, 0, 0, 0, 0, 4, 0, 0, 0);
        man(x, 1, 1, 4, 7, 0, 1, 1, 0, 5, 9, 18, 1, 0, 0, 5);
        man(x, 2, 2, 20, 7, 0, 1, 1, 0, 9, 9, 0, 20, 0, 1, 9);
        man(x, 3, 3, 2, 7, 0, 1, 4, 0, 2, 2, 0, 2, 0, 0, 2);
        man(x, 4, 4, 2, 7, 0, 1, 4, 0, 0, 2, 0, 2, 0, 0, 0);
        man(x, 5, 5, 2, 7, 0, 1, 1, 0, 2, 9, 0, 2, 0, 0, 2);
        for (int seed = 0; seed < 10; seed++) {
            x.days(30, seed);
        }
        man(x, 3, 3, 2, 7, 0, 1, 4, 0, 2, 2, 0, 2, 0, 0, 2);
        man(x, 4, 4, 2, 7, 0, 1, 4, 0, 0, 2, 0, 2, 0, 0, 0);
        man(x, 5, 5, 2, 7, 0, 1, 1, 0, 2, 9, 0, 2, 0, 0, 2);
    }

    private static void swearing() {
        c.says("To SWEAR to a port and d DAYS: why not, the least: 1 he is not SAFE; 2 there is no road to it; 3 he has sworn twice");
        RoadToPort x = Stage.six();
        for (int m = 1; m < 6; m++) {
            c.is("not SAFE: swear(" + m + ", port, 5)", x.swear(m, Stage.PORT, 5), 1);
            c.is("not SAFE, no road: swear(" + m + ", far, 5)", x.swear(m, Stage.FAR, 5), 1);
        }
        c.is("no road", x.swear(0, Stage.FAR, 5), 2);
        c.is("it can be done", x.swear(0, Stage.PORT, 5), 0);
        c.says("`int swear(int m, int p, int d)`: He SWEARS to a port and d (1 to 40) DAYS: 0, or why not; NONE: no such ones, another"
                + " PLACE.");
        for (int d : new int[] {0, -1, 41, 42, MIN, MAX}) {
            x = Stage.six();
            c.is("swear(0, port, " + d + ")", x.swear(0, Stage.PORT, d), -1);
            c.is("of one who is not SAFE: swear(1, port, " + d + ")", x.swear(1, Stage.PORT, d), -1);
            c.is("to one without a road: swear(0, far, " + d + ")", x.swear(0, Stage.FAR, d), -1);
        }
        for (int d : new int[] {1, 2, 39, 40}) {
            x = Stage.six();
            c.is("swear(0, port, " + d + ")", x.swear(0, Stage.PORT, d), 0);
            man(x, 0, 1, 4, 7, 1, 1, 1, 0, 0, 9, d, 4, 0, 0, 0);
        }
        x = Stage.six();
        for (int m : new int[] {-1, 6, 7, MIN, MAX}) {
            c.is("no such MAN: swear(" + m + ", port, 5)", x.swear(m, Stage.PORT, 5), -1);
        }
        for (int p : new int[] {-1, Stage.CHURCH, Stage.INN, Stage.CELL, 6, 10, MIN, MAX}) {
            c.is("no port: swear(0, " + p + ", 5)", x.swear(0, p, 5), -1);
            c.is("no port, not SAFE: swear(1, " + p + ", 5)", x.swear(1, p, 5), -1);
        }
        c.is("the last port", x.swear(0, Stage.FAR, 40), 2);
        c.is("nothing was sworn", x.man(0, 4), 0);
    }

    private static void swornTwice() {
        c.says("3 he has sworn twice: he WALKS the WAY to it from his church, has gone 0 of its MILES, has d DAYS, stayed 0 nights");
        RoadToPort x = Checks.landOf("church a;church b;port p 0 0 1;port q 0 0 1;port far 1 1 1;road a b 3 0;road b p 4 0;"
                + "road b q 9 0;man t a 3 5;");
        c.is("an oath", x.swear(0, 2, 9), 0);
        x.undo();
        c.is("what is undone was not sworn", x.man(0, 4), 0);
        c.is("an oath", x.swear(0, 2, 9), 0);
        x.order(0, 1);
        x.days(1, 1);
        x.order(0, 0);
        x.days(1, 1);
        x.order(0, 2);
        x.days(1, 1);
        c.is("at the second church", x.enter(0), 0);
        c.is("a second oath", x.swear(0, 3, 7), 0);
        man(x, 0, 1, 3, 5, 0, 2, 3, 1, 0, 9, 7, 3, 0, 0, 3);
        c.is("not SAFE, and sworn twice", x.swear(0, 2, 9), 1);
        c.is("he goes back in", x.enter(0), 0);
        c.is("no road, and sworn twice", x.swear(0, 4, 9), 2);
        c.is("sworn twice", x.swear(0, 2, 9), 3);
        man(x, 0, 0, 3, 5, 0, 2, 3, 1, 0, 0, 0, 3, 0, 0, 3);
        x.undo();
        x.undo();
        c.is("of two one is undone", x.swear(0, 2, 9), 0);
    }

    private static void whoseChurch() {
        c.says("2 there is no road to it");
        // It is his church that counts, wherever it stands among the PLACES.
        String two = "church a;church b;port p 1 1 1;inn i;";
        RoadToPort x = Checks.landOf(two + "road a p 1 0;man s a 1 0;man t b 1 0;");
        c.is("from the first church", x.swear(0, 2, 9), 0);
        c.is("from the second there is none", x.swear(1, 2, 9), 2);
        x = Checks.landOf(two + "road b i 1 0;road i p 1 0;man s a 1 0;man t b 1 0;");
        c.is("from the first there is none", x.swear(0, 2, 9), 2);
        c.is("from the second church, by an inn", x.swear(1, 2, 9), 0);
    }

    private static void secondOath() {
        c.says("he WALKS the WAY to it from his church, has gone 0 of its MILES");
        RoadToPort x = Checks.landOf("inn x;church a;church b;port p 12 0 1;port q 12 0 1;inn d;road a b 3 0;road b d 2 0;"
                + "road d q 4 6;road b p 9 0;man s a 3 0;man t a 3 0;");
        x.swear(0, 3, 40);
        x.order(0, 0);
        x.swear(1, 3, 9);
        x.days(1, 1);
        x.order(1, 0);
        x.order(0, 1);
        x.days(1, Checks.seed(Checks.draw(12, 0, 11)));
        c.is("a night at the second church", x.man(1, 11), 1);
        c.is("he ENTERS", x.enter(1), 0);
        man(x, 1, 0, 3, 0, 0, 1, 3, 2, 0, 0, 0, 0, 0, 0, 3);
        man(x, 0, 1, 3, 0, 0, 1, 3, 1, 1, 12, 38, 1, 0, 0, 1);
        c.is("MILES that he walked so far", Checks.sentence(x, "miles = 3") + x.said(0), 1 + 1);
        c.is("a second oath", x.swear(1, 4, 2), 0);
        man(x, 1, 1, 3, 0, 0, 2, 4, 2, 0, 6, 2, 3, 0, 0, 3);
        c.is("THERE", x.there(1), 3);
        c.is("PLAN", x.plan(1, 0), 1);
        c.is("PLAN", x.plan(1, 1), 2);
        c.is("PLAN, the first DAY", x.planAt(0), 3);
        c.is("PLAN, the second DAY", x.planAt(1), 3);
        c.is("PLAN, no third DAY", x.planAt(2), -1);
        x.order(0, 0);
        x.days(1, Checks.seed(Checks.draw(12, 0, 11), Checks.draw(12, 6, 11)));
        man(x, 1, 1, 3, 0, 0, 2, 4, 2, 3, 6, 1, 3, 0, 0, 6);
        c.is("THERE", x.there(1), 3);
        c.is("he sails in any case", x.odds(1, 5, 1), 5);
        x.order(0, 1);
        x.days(1, 1);
        man(x, 1, 2, 3, 0, 0, 2, 4, 2, 6, 6, 0, 3, 0, 0, 9);
    }

    private static void ordering() {
        c.says("To ORDER n MILES a DAY: 1 he does not WALK; 2 n is above his PACE; 3 it is just so (at first, and by each oath: his"
                + " PACE).");
        RoadToPort x = Stage.six();
        for (int m : new int[] {0, 2, 3, 4, 5}) {
            c.is("does not WALK: order(" + m + ", 1)", x.order(m, 1), 1);
            c.is("does not WALK, above his PACE: order(" + m + ", 20)", x.order(m, 20), 1);
            c.is("does not WALK, just so: order(" + m + ", ..)", x.order(m, x.man(m, 10)), 1);
        }
        x.swear(0, Stage.PORT, 9);
        c.is("just so: his PACE", x.order(0, 4), 3);
        c.is("above his PACE by one", x.order(0, 5), 2);
        c.is("20 is above his PACE", x.order(0, 20), 2);
        c.is("a MILE less", x.order(0, 3), 0);
        c.is("just so", x.order(0, 3), 3);
        c.is("his PACE again", x.order(0, 4), 0);
        c.is("none", x.order(0, 0), 0);
        c.is("just so, none", x.order(0, 0), 3);
        c.is("one", x.order(0, 1), 0);
        x.enter(0);
        c.is("what he ordered, in the church", x.man(0, 10), 1);
        x.swear(0, Stage.PORT, 9);
        c.is("by each oath: his PACE", x.man(0, 10), 4);
        c.is("by each oath: just so", x.order(0, 4), 3);
        c.says("`int order(int m, int n)`: He ORDERS n (0 to 20): 0, or why not; NONE: no such ones.");
        for (int n : new int[] {-1, 21, MIN, MAX}) {
            c.is("order(0, " + n + ")", x.order(0, n), -1);
            c.is("of one who does not WALK: order(3, " + n + ")", x.order(3, n), -1);
        }
        for (int m : new int[] {-1, 6, MIN, MAX}) {
            c.is("order(" + m + ", 1)", x.order(m, 1), -1);
        }
        x = walker("9 0", "9 0", 20, 9);
        c.is("20 as his PACE", x.order(0, 20), 3);
        c.is("19", x.order(0, 19), 0);
        c.is("20", x.order(0, 20), 0);
    }

    private static void slipping() {
        c.says("To SLIP into the woods: 1 he does not WALK: an OUTLAW.");
        RoadToPort x = Stage.six();
        for (int m : new int[] {0, 2, 3, 4, 5}) {
            c.is("does not WALK: slip(" + m + ")", x.slip(m), 1);
            c.is("he is as he was", x.man(m, 0), m);
        }
        c.is("slip(1)", x.slip(1), 0);
        man(x, 1, 4, 4, 7, 0, 1, 1, 0, 5, 9, 0, 1, 0, 0, 5);
        c.is("an OUTLAW for good", x.slip(1), 1);
        c.says("`int slip(int m)`: He SLIPS: 0, or why not; NONE: no such one.");
        for (int m : new int[] {-1, 6, MIN, MAX}) {
            c.is("slip(" + m + ")", x.slip(m), -1);
        }
    }

    private static void entering() {
        c.says("To ENTER: 1 he does not WALK; 2 he is not just at a church: he is SAFE there, has stayed 0 nights.");
        RoadToPort x = Stage.six();
        for (int m : new int[] {0, 2, 3, 4, 5}) {
            c.is("does not WALK: enter(" + m + ")", x.enter(m), 1);
        }
        c.is("on a road", x.enter(1), 2);
        c.is("just sworn", x.swear(0, Stage.PORT, 9), 0);
        c.is("just at his church", x.enter(0), 0);
        man(x, 0, 0, 4, 7, 1, 1, 1, 0, 0, 0, 0, 4, 0, 0, 0);
        c.is("SAFE", x.enter(0), 1);
        c.says("`int enter(int m)`: He ENTERS: 0, or why not; NONE: no such one.");
        for (int m : new int[] {-1, 6, MIN, MAX}) {
            c.is("enter(" + m + ")", x.enter(m), -1);
        }
    }

    private static void enteringOnTheWay() {
        c.says("2 he is not just at a church");
        String text = "church a;church b;inn i;port p 0 0 1;road a b 3 0;road b i 2 0;road i p 9 0;man t a 4 5;";
        int[] mile = {0, 1, 2, 3, 4, 5, 6};
        int[] due = {0, 2, 2, 0, 2, 2, 2};
        for (int k = 0; k < mile.length; k++) {
            RoadToPort x = Checks.landOf(text);
            x.swear(0, 3, 20);
            x.order(0, 1);
            if (mile[k] > 0) {
                x.days(mile[k], 1);
            }
            c.is("MILES gone", x.man(0, 7), mile[k]);
            c.is("enter at MILE " + mile[k], x.enter(0), due[k]);
            c.is("how he is at MILE " + mile[k], x.man(0, 0), due[k] == 0 ? 0 : 1);
            c.is("his church at MILE " + mile[k], x.man(0, 6), due[k] == 0 && mile[k] == 3 ? 1 : 0);
        }
        // A church that he only passed is none at which he is.
        RoadToPort x = Checks.landOf(text);
        x.swear(0, 3, 20);
        x.days(1, 1);
        c.is("a MILE beyond it", x.enter(0), 2);
        // A night in the church's yard is forgotten.
        x = Checks.landOf(text);
        x.swear(0, 3, 20);
        x.order(0, 0);
        x.days(1, 1);
        c.is("a night", x.man(0, 11), 1);
        c.is("enters", x.enter(0), 0);
        c.is("stayed 0 nights", x.man(0, 11), 0);
        x.swear(0, 3, 20);
        x.order(0, 0);
        x.days(1, 1);
        c.is("a night, the first", x.man(0, 11), 1);
        c.is("he WALKS", x.man(0, 0), 1);
    }

    private static void getting() {
        c.says("To GET n COIN: 1 he has SAILED, is an OUTLAW, or SLAIN: so much more (999 at most).");
        RoadToPort x = Stage.six();
        for (int m = 0; m < 6; m++) {
            c.is("get(" + m + ", 2)", x.get(m, 2), m < 3 ? 0 : 1);
            c.is("COIN of " + m, x.man(m, 2), m < 3 ? 9 : 7);
        }
        for (int k = 0; k < 10; k++) {
            x.get(0, 99);
        }
        c.is("999", x.man(0, 2), 999);
        c.is("done all the same", x.get(0, 1), 0);
        c.is("999 at most", x.man(0, 2), 999);
        c.is("it was done", x.undo(), 7);
        for (int start : new int[] {899, 900, 901, 998}) {
            x = Checks.landOf("church a;man t a 1 " + start % 99 + ";");
            for (int k = 0; k < start / 99; k++) {
                x.get(0, 99);
            }
            c.is("as much as wanted", x.man(0, 2), start);
            c.is("get(0, 99)", x.get(0, 99), 0);
            c.is("of " + start + " and 99", x.man(0, 2), Math.min(999, start + 99));
        }
        c.says("`int get(int m, int n)`: He GETS n (1 to 99): 0, or why not; NONE: no such ones.");
        x = Stage.six();
        for (int n : new int[] {0, -1, 100, MIN, MAX}) {
            c.is("get(0, " + n + ")", x.get(0, n), -1);
            c.is("of one who has SAILED: get(3, " + n + ")", x.get(3, n), -1);
        }
        for (int m : new int[] {-1, 6, MIN, MAX}) {
            c.is("get(" + m + ", 1)", x.get(m, 1), -1);
        }
        c.is("the least", x.get(0, 1), 0);
        c.is("one more", x.man(0, 2), 8);
        c.is("the most", x.get(0, 99), 0);
        c.is("99 more", x.man(0, 2), 107);
    }

    // ---- DAYS ----

    private static void manyDays() {
        c.says("`int days(int n, int seed)`: n (1 to 30) DAYS with a seed: how many went by; NONE: not as told.");
        for (int n : new int[] {1, 2, 29, 30}) {
            RoadToPort x = Stage.six();
            c.is("days(" + n + ", 0)", x.days(n, 0), n);
            c.is("the DAY", x.now(0), 2 + n);
        }
        RoadToPort x = Stage.six();
        for (int n : new int[] {0, -1, 31, 32, MIN, MAX}) {
            c.is("days(" + n + ", 0)", x.days(n, 0), -1);
            c.is("the DAY", x.now(0), 2);
        }
        c.is("nothing but the BOOK can be undone", x.undo(), 0);
    }

    private static void allAreOver() {
        c.says("A DAY (0 to 399; 400: all are over) goes");
        RoadToPort x = Checks.landOf("church a;port p 12 9 1;road a p 1 0;man t a 1 5;man u a 1 5;");
        x.swear(0, 1, 1);
        for (int k = 0; k < 13; k++) {
            c.is("30 DAYS", x.days(30, k), 30);
        }
        x.days(8, 1);
        x.swear(1, 1, 40);
        x.order(1, 0);
        c.is("DAY 398", x.now(0), 398);
        c.is("it goes", x.days(1, 1), 1);
        c.is("DAY 399", x.now(0), 399);
        x.image(0);
        c.is("it goes, the last one", x.days(1, 1), 1);
        c.is("all are over", x.now(0), 400);
        c.is("he waited for 399 DAYS", x.man(0, 12), 399);
        c.is("none goes any more", x.days(1, 1), 0);
        c.is("none of many goes", x.days(30, 1), 0);
        c.is("all are over", x.now(0), 400);
        c.is("nobody waits any more", x.man(0, 12), 399);
        c.is("days() of 0 is no act", x.undo(), 7);
        c.is("DAY 399", x.now(0), 399);
        c.is("of 30 one goes", x.days(30, 1), 1);
        c.is("not as told all the same", x.days(31, 1), -1);
        c.is("not as told all the same", x.days(0, 1), -1);
        // On DAY 400 the other acts go on.
        c.is("an act on DAY 400", x.get(0, 1), 0);
        x.restore(0);
        c.is("restored: DAY 399", x.now(0), 399);
        x.undo();
        RoadToPort y = Checks.landOf("church a;");
        for (int k = 0; k < 13; k++) {
            y.days(30, k);
        }
        c.is("ten are left: nine", y.days(9, 1), 9);
        c.is("one is left", y.days(2, 1), 1);
        y.undo();
        y.undo();
        c.is("ten are left: ten", y.days(10, 1), 10);
        y.undo();
        c.is("ten are left: eleven", y.days(11, 1), 10);
        c.is("a new LAND begins anew", y.land(), 0);
        c.is("DAY 0", y.now(0), 0);
        c.is("days go again", y.days(30, 1), 30);
    }

    private static void draws() {
        c.says("for each draw of n x becomes x * 1103515245 + 12345, an int, wrapping; the draw is (x >>> 8) % n; DAYS one behind the"
                + " other go on with it");
        // By ODDS of 1 to 6 of 12 the DAY on which each of six sails tells each draw; who has SAILED draws no more.
        String text = "church a;port pa 1 0 6;port pb 2 0 6;port pc 3 0 6;port pd 4 0 6;port pe 5 0 6;port pf 6 0 6;";
        for (char k = 'a'; k <= 'f'; k++) {
            text += "road a p" + k + " 1 0;";
        }
        for (char k = 'a'; k <= 'f'; k++) {
            text += "man m" + k + " a 1 0;";
        }
        for (int seed : new int[] {0, 1, -1, 7, MIN, MAX, MIN + 1, 0x7fffff00, 0x80000100, 123456789, -987654321}) {
            RoadToPort x = Checks.landOf(text);
            for (int m = 0; m < 6; m++) {
                x.swear(m, m + 1, 1);
            }
            x.days(1, 3);
            c.is("all wait", x.now(3), 63);
            x.image(0);
            for (int n = 1; n <= 12; n++) {
                x.restore(0);
                x.days(n, seed);
                c.is("SAILED behind " + n + " DAYS with " + seed, x.now(4), sailedBy(seed, n));
            }
            x.restore(0);
            x.days(30, seed);
            c.is("SAILED behind 30 DAYS with " + seed, x.now(4), sailedBy(seed, 30));
            x.restore(0);
            x.days(1, seed);
            int first = x.now(4);
            x.undo();
            c.is("undone", x.now(4), 0);
            x.days(1, seed);
            c.is("the same seed, the same DAY", x.now(4), first);
        }
    }

    private static int sailedBy(int seed, int days) {
        Stage.Draws draws = new Stage.Draws(seed);
        int sailed = 0;
        for (int day = 0; day < days; day++) {
            for (int m = 0; m < 6; m++) {
                if ((sailed >> m & 1) == 0 && draws.next(12) < m + 1) {
                    sailed |= 1 << m;
                }
            }
        }
        return sailed;
    }

    private static void seedsWrap() {
        c.says("Of n (1 to 30) seeds x, x and 1, .. by how many a MAN has SAILED behind 30 DAYS from now on with it");
        RoadToPort x = Checks.landOf("church a;port p 1 0 2;road a p 1 0;man t a 1 0;");
        x.swear(0, 1, 1);
        x.days(1, 1);
        for (int seed : new int[] {MAX - 14, MAX, -15, -1, 0}) {
            int due = 0;
            for (int k = 0; k < 30; k++) {
                int one = (int) ((seed + 2147483648L + k) % 4294967296L - 2147483648L);
                x.days(30, one);
                due += x.man(0, 0) == 3 ? 1 : 0;
                x.undo();
            }
            c.is("odds(0, 30, " + seed + ")", x.odds(0, 30, seed), due);
        }
    }

    private static void ships() {
        c.says("who WAITS: a draw of 12: below the ODDS of his port a ship goes");
        for (int odds = 0; odds <= 12; odds++) {
            RoadToPort x = Checks.landOf("church a;port p " + odds + " 5 1;road a p 1 0;man t a 1 5;");
            x.swear(0, 1, 1);
            x.days(1, 1);
            x.image(0);
            for (int draw = 0; draw < 12; draw++) {
                x.restore(0);
                x.days(1, Stage.seedOf(12, draw));
                boolean goes = draw < odds;
                c.is("ODDS " + odds + ", draw " + draw, x.man(0, 0), goes ? 3 : 2);
                c.is("COIN of ODDS " + odds + ", draw " + draw, x.man(0, 2), goes ? 0 : 5);
                c.is("WADED of ODDS " + odds + ", draw " + draw, x.man(0, 12), goes ? 0 : 1);
            }
        }
    }

    private static void pay() {
        c.says("if he has its PAY, he pays it and has SAILED; if none goes, or he has not as much, he has WADED once more");
        int[][] cases = {{0, 0}, {0, 5}, {5, 4}, {5, 5}, {5, 6}, {99, 98}, {99, 99}, {1, 0}, {1, 1}};
        for (int[] pc : cases) {
            RoadToPort x = Checks.landOf("church a;port p 12 " + pc[0] + " 1;road a p 1 0;man t a 1 " + pc[1] + ";");
            x.swear(0, 1, 1);
            x.days(1, 1);
            x.days(1, 1);
            boolean can = pc[1] >= pc[0];
            String what = "PAY " + pc[0] + ", COIN " + pc[1];
            c.is(what, x.man(0, 0), can ? 3 : 2);
            c.is(what + ": what is left", x.man(0, 2), can ? pc[1] - pc[0] : pc[1]);
            c.is(what + ": WADED", x.man(0, 12), can ? 0 : 1);
            x.days(30, 1);
            c.is(what + ": WADED in 30 DAYS more", x.man(0, 12), can ? 0 : 31);
        }
    }

    private static void milesOfADay() {
        c.says("he goes as many MILES as he ordered, or as many as are left");
        for (int order = 1; order <= 12; order++) {
            RoadToPort x = walker("4 0", "5 0", 12, 9);
            x.order(0, order);
            x.days(1, 1);
            c.is("of 9 MILES by " + order, x.man(0, 7), Math.min(9, order));
            c.is("MILES walked by " + order, x.man(0, 13), Math.min(9, order));
            c.is("all of its MILES", x.man(0, 8), 9);
            c.is("how he is by " + order, x.man(0, 0), order >= 9 ? 2 : 1);
            c.is("who is at the inn by " + order, x.place(1, 4), order == 4 ? 1 : 0);
            c.is("who is at the port by " + order, x.place(2, 4), order >= 9 ? 1 : 0);
            x.days(1, 1);
            c.is("of 9 MILES by " + order + " in two DAYS", x.man(0, 7), Math.min(9, 2 * order));
        }
    }

    private static void fords() {
        c.says("if that is above 0 and some of it is on a road with a ford: a draw of 6: 0: he goes none on this DAY");
        for (int draw = 0; draw < 6; draw++) {
            RoadToPort x = walker("4 0 ford", "5 0", 4, 9);
            x.days(1, Stage.seedOf(6, draw));
            c.is("MILES by a draw of " + draw, x.man(0, 7), draw == 0 ? 0 : 4);
            c.is("DAYS by a draw of " + draw, x.man(0, 9), 8);
        }
        // Above 0: who goes none meets no ford, on its road, too. His first draw then is of DANGER.
        RoadToPort x = walker("4 6 ford", "5 0", 4, 9);
        x.order(0, 2);
        x.days(1, Checks.seed(Checks.draw(6, 1, 5), Checks.draw(12, 6, 11)));
        c.is("on the ford's road", x.man(0, 7), 2);
        x.order(0, 0);
        x.image(0);
        x.days(1, Checks.seed(Checks.draw(12, 6, 6)));
        c.is("a night, counted", x.man(0, 11), 1);
        c.is("alive", x.man(0, 0), 1);
        x.restore(0);
        int seed = Checks.seed(Checks.draw(12, 0, 0), Checks.draw(12, 11, 11));
        c.is("(a draw of 6 would be 0, too)", new Stage.Draws(seed).next(6), 0);
        x.days(1, seed);
        c.is("SLAIN by the first draw", x.man(0, 0), 5);
        // A MILE less than the whole way of the ford is held, too.
        x.restore(0);
        x.order(0, 1);
        x.days(1, Checks.seed(Checks.draw(6, 0, 0), Checks.draw(12, 6, 11)));
        c.is("held", x.man(0, 7), 2);
        c.is("no night", x.man(0, 11), 0);
    }

    private static void fordMet(String first, String second, int gone, int goes, boolean meets) {
        RoadToPort x = walker(first, second, 20, 30);
        if (gone > 0) {
            x.order(0, gone);
            x.days(1, Checks.seed(Checks.draw(6, 1, 5), Checks.draw(12, 1, 11)));
        }
        x.order(0, goes);
        String what = first + ", " + second + " from " + gone + " by " + goes;
        c.is(what + ": from there", x.man(0, 7), gone);
        x.days(1, Checks.seed(Checks.draw(6, 0, 0), Checks.draw(12, 1, 11)));
        c.is(what + ": gone", x.man(0, 7), meets ? gone : gone + goes);
    }

    private static void whereFordsAre() {
        c.says("some of it is on a road with a ford");
        fordMet("4 0", "5 0", 0, 9, false);
        fordMet("4 0", "5 0 ford", 0, 1, false);
        fordMet("4 0", "5 0 ford", 0, 3, false);
        fordMet("4 0", "5 0 ford", 0, 4, false);
        fordMet("4 0", "5 0 ford", 0, 5, true);
        fordMet("4 0", "5 0 ford", 0, 9, true);
        fordMet("4 0", "5 0 ford", 3, 1, false);
        fordMet("4 0", "5 0 ford", 3, 2, true);
        fordMet("4 0", "5 0 ford", 4, 1, true);
        fordMet("4 0", "5 0 ford", 8, 1, true);
        fordMet("4 0 ford", "5 0", 0, 1, true);
        fordMet("4 0 ford", "5 0", 3, 1, true);
        fordMet("4 0 ford", "5 0", 3, 2, true);
        fordMet("4 0 ford", "5 0", 4, 1, false);
        fordMet("4 0 ford", "5 0", 5, 3, false);
        fordMet("1 0 ford", "5 0 ford", 0, 6, true);
        // Two fords on a DAY: one draw, then that of DANGER (at the port there is none).
        RoadToPort x = walker("4 0 ford", "9 6 ford", 6, 9);
        int seed = Checks.seed(Checks.draw(6, 1, 5), Checks.draw(12, 6, 6), Checks.draw(12, 0, 0));
        x.days(1, seed);
        c.is("over both", x.man(0, 7), 6);
        c.is("alive by the second draw", x.man(0, 0), 1);
    }

    private static void nineRoads() {
        c.says("some of it is on a road with a ford: a draw of 6");
        // A road of a MILE behind the other, the last of nine with a ford and the greatest DANGER.
        String text = "church a;inn b;inn c;inn d;inn e;inn f;inn g;inn h;inn i;port j 0 0 1;man t a 20 0;";
        for (char k = 'a'; k < 'j'; k++) {
            text += "road " + k + " " + (char) (k + 1) + " 1 " + (k - 'a') + (k == 'i' ? " ford;" : ";");
        }
        RoadToPort x = Checks.landOf(text);
        c.is("the last is worst", x.worst(0, 9), 8);
        c.is("back: the first is worst", x.worst(9, 0), 8);
        c.is("one to be cut", x.cut(0, 9), 1);
        c.is("the least", x.cutting(), 1);
        c.is("of the last two", x.cut(9, 7), 1);
        c.is("the least", x.cutting(), 1 << 7);
        x.swear(0, 9, 9);
        x.days(1, Stage.seedOf(6, 0));
        c.is("held by the last road", x.man(0, 7), 0);
        x.order(0, 8);
        x.days(1, Stage.seedOf(6, 0));
        c.is("up to the last road", x.place(8, 4), 1);
        x.undo();
        x.order(0, 20);
        x.days(1, Stage.seedOf(6, 1));
        c.is("at the port on one DAY", x.place(9, 4), 1);
        c.is("MILES", x.man(0, 13), 9);
        // Two roads on, he is not yet at a ford's road behind those.
        x = Checks.landOf("church a;inn b;inn d;port p 0 0 1;road a b 4 0;road b d 5 0;road d p 3 0 ford;man t a 9 0;");
        x.swear(0, 3, 9);
        x.order(0, 5);
        x.days(1, 1);
        x.order(0, 4);
        x.image(0);
        x.days(1, Checks.seed(Checks.draw(6, 0, 0)));
        c.is("up to its beginning", x.man(0, 7), 9);
        x.restore(0);
        x.order(0, 5);
        x.days(1, Checks.seed(Checks.draw(6, 0, 0)));
        c.is("a MILE more", x.man(0, 7), 5);
    }

    private static void held() {
        c.says("0: he goes none on this DAY (no night is counted, none is forgotten)");
        int seed = Checks.seed(Checks.draw(6, 0, 0), Checks.draw(6, 0, 0), Checks.draw(6, 0, 0));
        RoadToPort x = walker("4 0 ford", "5 0", 4, 9);
        x.days(3, seed);
        man(x, 0, 1, 4, 5, 0, 1, 2, 0, 0, 9, 6, 4, 0, 0, 0);
        // A night ahead of it is not forgotten: the next one is the second.
        x = walker("4 0 ford", "5 0", 4, 9);
        x.order(0, 0);
        x.days(1, 1);
        x.order(0, 4);
        x.days(1, seed);
        c.is("held: a night, as before", x.man(0, 11), 1);
        c.is("held: he WALKS", x.man(0, 0), 1);
        x.image(0);
        x.order(0, 0);
        x.days(1, 1);
        c.is("the second night", x.man(0, 0), 4);
        x.restore(0);
        x.days(1, Checks.seed(Checks.draw(6, 1, 5)));
        c.is("he goes: nights forgotten", x.man(0, 11), 0);
        // Held between two nights that would make an OUTLAW.
        x = walker("4 0 ford", "5 0", 4, 2);
        x.days(2, seed);
        c.is("held until his DAYS are over", x.man(0, 0), 4);
        c.is("no night", x.man(0, 11), 0);
    }

    private static void nights() {
        c.says("Else, if he goes none: a night more; with 2 he is an OUTLAW; if he goes some, he has stayed 0 nights.");
        RoadToPort x = walker("4 0", "5 0", 4, 30);
        x.order(0, 0);
        x.days(1, 1);
        man(x, 0, 1, 4, 5, 0, 1, 2, 0, 0, 9, 29, 0, 1, 0, 0);
        x.image(0);
        x.days(1, 1);
        man(x, 0, 4, 4, 5, 0, 1, 2, 0, 0, 9, 0, 0, 2, 0, 0);
        x.restore(0);
        x.order(0, 1);
        x.days(1, 1);
        man(x, 0, 1, 4, 5, 0, 1, 2, 0, 1, 9, 28, 1, 0, 0, 1);
        x.order(0, 0);
        x.days(1, 1);
        c.is("a night, the first again", x.man(0, 11), 1);
        c.is("he WALKS", x.man(0, 0), 1);
        x.order(0, 4);
        x.days(1, 1);
        c.is("nights forgotten", x.man(0, 11), 0);
        x = walker("4 0", "5 0", 4, 30);
        x.order(0, 0);
        x.days(30, 1);
        c.is("an OUTLAW stays no third night", x.man(0, 11), 2);
        c.is("a night on his last DAY", nightOn(1), 4);
        c.is("a night on his last but one", nightOn(2), 1);
    }

    private static int nightOn(int days) {
        RoadToPort x = walker("4 0", "5 0", 4, days);
        x.order(0, 0);
        x.days(1, 1);
        return x.man(0, 0);
    }

    private static void danger() {
        c.says("who is on a road then, at none of its ends: a draw of 12: below its DANGER (half, cut, if he has kin) he is SLAIN");
        for (int danger = 0; danger <= 12; danger++) {
            for (int kin = 0; kin < 2; kin++) {
                RoadToPort x = Checks.landOf("church a;port p 0 0 1;road a p 9 " + danger + ";man t a 4 5;"
                        + (kin == 1 ? "kin t;" : ""));
                x.swear(0, 1, 9);
                x.image(0);
                for (int draw = 0; draw < 12; draw++) {
                    x.restore(0);
                    x.days(1, Stage.seedOf(12, draw));
                    boolean slain = draw < (kin == 1 ? danger / 2 : danger);
                    String what = "DANGER " + danger + ", kin " + kin + ", draw " + draw;
                    c.is(what, x.man(0, 0), slain ? 5 : 1);
                    c.is(what + ": DAYS", x.man(0, 9), slain ? 0 : 8);
                    c.is(what + ": MILES", x.man(0, 13), 4);
                }
            }
        }
    }

    private static void whereDangerIs() {
        c.says("who is on a road then, at none of its ends");
        // By MILES of the first DAY: on the first road until 3, at the inn by 4, on the second from 5 on, at the port by 9.
        for (int goes = 0; goes <= 9; goes++) {
            RoadToPort x = walker("4 12", "5 0", 9, 9);
            x.order(0, goes);
            x.days(1, 1);
            c.is("DANGER on the first road, by " + goes, x.man(0, 0), goes > 0 && goes < 4 ? 5 : goes == 9 ? 2 : 1);
            x = walker("4 0", "5 12", 9, 9);
            x.order(0, goes);
            x.days(1, 1);
            c.is("DANGER on the second road, by " + goes, x.man(0, 0), goes > 4 && goes < 9 ? 5 : goes == 9 ? 2 : 1);
        }
        // At an end there is no draw: the next MAN has the first one.
        RoadToPort x = Checks.landOf("church a;inn b;port p 0 0 1;port q 6 0 1;road a b 4 12;road b p 5 12;road a q 1 0;"
                + "man s a 4 0;man t a 1 0;");
        x.swear(1, 3, 9);
        x.days(1, 1);
        x.swear(0, 2, 9);
        x.days(1, Checks.seed(Checks.draw(12, 0, 5), Checks.draw(12, 6, 11)));
        c.is("at the inn", x.place(1, 4), 1);
        c.is("the other one SAILED by the first draw", x.man(1, 0), 3);
    }

    private static void atThePort() {
        c.says("Who is at his port then WAITS");
        RoadToPort x = Checks.landOf("church a;port p 12 0 1;port q 12 0 1;road a p 3 12;road p q 2 0;man t a 3 5;");
        x.swear(0, 1, 1);
        x.days(1, 1);
        c.is("on his last DAY he WAITS", x.man(0, 0), 2);
        c.is("no ship is drawn for on that DAY", x.man(0, 12), 0);
        c.is("at his port", x.place(1, 4), 1);
        x.days(1, 1);
        c.is("on the next one he has SAILED", x.man(0, 0), 3);
        c.is("gone", x.place(1, 4), 0);
        // Another port on his WAY is no port of his.
        x = Checks.landOf("church a;port p 12 0 1;port q 12 0 1;road a p 3 12;road p q 2 0;man t a 3 5;");
        x.swear(0, 2, 9);
        x.days(1, 1);
        c.is("at another port he WALKS", x.man(0, 0), 1);
        c.is("there", x.place(1, 4), 1);
        c.is("it is no church", x.enter(0), 2);
        x.days(1, 1);
        c.is("at his own he WAITS", x.man(0, 0), 2);
        c.is("there", x.place(2, 4), 1);
    }

    private static void daysThatHeHas() {
        c.says("Who still WALKS has a DAY less; with 0 he is an OUTLAW.");
        for (int days : new int[] {1, 2, 3, 40}) {
            RoadToPort x = walker("4 0", "5 0", 1, days);
            if (days > 8) {
                c.is("DAYS", x.man(0, 9), 40);
                x.days(1, 1);
                c.is("a DAY less", x.man(0, 9), 39);
                continue;
            }
            if (days > 1) {
                x.days(days - 1, 1);
            }
            c.is("a DAY is left", x.man(0, 9), 1);
            c.is("he WALKS", x.man(0, 0), 1);
            x.days(1, 1);
            c.is("none is left", x.man(0, 0), 4);
            c.is("he went on that DAY", x.man(0, 13), days);
        }
        RoadToPort x = walker("4 0", "5 0", 3, 3);
        x.days(3, 1);
        c.is("there by his last DAY", x.man(0, 0), 2);
        x = walker("4 0", "6 0", 3, 3);
        x.days(3, 1);
        c.is("a MILE short of it", x.man(0, 0), 4);
        c.is("SLAIN on his last DAY, not an OUTLAW", slainOnHisLastDay(), 5);
    }

    private static int slainOnHisLastDay() {
        RoadToPort x = walker("4 12", "6 0", 3, 1);
        x.days(1, 1);
        return x.man(0, 0);
    }

    private static void manByMan() {
        c.says("It is the next DAY.");
        RoadToPort none = Checks.landOf("");
        c.is("a DAY without MEN", none.days(1, 1), 1);
        c.is("the next DAY", none.now(0), 1);
        c.says("MAN by MAN, as he is then");
        // Each of three draws once on a DAY, in their order; who comes to the port on it draws for no ship.
        String text = "church a;port p 6 0 6;port q 0 0 1;road a p 2 0;road a q 9 6;man r a 2 0;man s a 1 0;man t a 2 0;man u a 1 0;";
        RoadToPort x = Checks.landOf(text);
        x.swear(0, 1, 9);
        x.swear(2, 1, 9);
        x.days(1, 1);
        x.swear(1, 2, 9);
        x.swear(3, 2, 9);
        x.image(0);
        for (int bits = 0; bits < 16; bits++) {
            int[][] four = new int[4][];
            for (int m = 0; m < 4; m++) {
                four[m] = (bits >> m & 1) == 1 ? Checks.draw(12, 0, 5) : Checks.draw(12, 6, 11);
            }
            x.restore(0);
            x.days(1, Checks.seed(four));
            c.is("SAILED by " + bits, x.now(4), bits & 5);
            c.is("SLAIN by " + bits, x.now(6), bits & 10);
            c.is("WAIT by " + bits, x.now(3), 5 & ~bits);
            c.is("WALK by " + bits, x.now(2), 10 & ~bits);
        }
        // Who is SAFE, has SAILED, is an OUTLAW or SLAIN draws nothing: the one who walks has the first draw.
        x = Stage.six();
        x.get(2, 99);
        x.days(1, 1);
        c.is("nobody WAITS", x.now(3), 0);
        c.is("he still WALKS", x.man(1, 0), 1);
        RoadToPort y = Checks.landOf("church a;port p 0 0 1;port q 12 0 1;road a p 9 6;road a q 1 0;man r a 1 0;man s a 1 0;man t a 1 0;");
        y.swear(1, 2, 9);
        y.swear(0, 1, 9);
        y.slip(0);
        y.days(2, 1);
        y.swear(2, 1, 9);
        y.image(0);
        y.days(1, Checks.seed(Checks.draw(12, 5, 5), Checks.draw(12, 6, 6)));
        c.is("SLAIN by the first draw", y.man(2, 0), 5);
        y.restore(0);
        y.days(1, Checks.seed(Checks.draw(12, 6, 6), Checks.draw(12, 5, 5)));
        c.is("alive by the first draw", y.man(2, 0), 1);
    }

    // ---- undo ----

    private static void undoing() {
        c.says("The latest of swear(), order(), slip(), enter(), get() that was done, days() above 0, a BOOK of which a LINE was lived"
                + " is undone");
        RoadToPort x = new RoadToPort();
        c.is("ahead of any", x.undo(), -1);
        x = Stage.six();
        c.is("the BOOK", x.undo(), 0);
        c.is("all SAFE", x.now(1), 63);
        c.is("DAY 0", x.now(0), 0);
        c.is("none is left", x.undo(), -1);
        c.is("none is left, again", x.undo(), -1);
        // What was not done is no act, and what only looks is none.
        x = Stage.six();
        x.swear(1, Stage.PORT, 5);
        x.swear(0, Stage.FAR, 5);
        x.swear(0, Stage.PORT, 41);
        x.order(1, 5);
        x.order(1, 1);
        x.order(0, 1);
        x.order(1, 21);
        x.slip(0);
        x.slip(6);
        x.enter(0);
        x.enter(1);
        x.enter(-1);
        x.get(3, 1);
        x.get(0, 100);
        x.days(31, 1);
        x.days(0, 1);
        Checks.book(x, "", 1);
        Checks.book(x, "ann slips;", 1);
        Checks.book(x, "ann slips;day 1;", 1);
        Checks.book(x, "day 1;", 0);
        Checks.book(x, "day 1;x", 1);
        x.book(2);
        x.odds(1, 5, 1);
        x.image(0);
        c.is("the BOOK of the stage is the latest act", x.undo(), 0);
        c.is("DAY 0", x.now(0), 0);
    }

    private static void eightAreKept() {
        c.says("how many more can be (8 at most are kept); NONE: none is");
        for (int acts = 0; acts <= 20; acts++) {
            RoadToPort x = Checks.landOf("church a;man t a 1 0;");
            for (int k = 0; k < acts; k++) {
                x.get(0, 1);
            }
            int can = Math.min(8, acts);
            for (int k = can - 1; k >= 0; k--) {
                c.is("undo() behind " + acts + " acts", x.undo(), k);
                c.is("COIN behind " + acts + " acts", x.man(0, 2), acts - can + k);
            }
            c.is("undo() behind " + acts + " acts, one more", x.undo(), -1);
            c.is("COIN stays", x.man(0, 2), acts - can);
        }
        // Undone ones make room again.
        RoadToPort x = Checks.landOf("church a;man t a 1 0;");
        for (int k = 0; k < 10; k++) {
            x.get(0, 1);
        }
        for (int k = 0; k < 3; k++) {
            x.undo();
        }
        x.get(0, 50);
        c.is("of eight three were undone, one came", x.undo(), 5);
        c.is("COIN", x.man(0, 2), 7);
        for (int k = 0; k < 5; k++) {
            x.get(0, 10);
        }
        c.is("ten of which eight are kept", x.undo(), 7);
        for (int k = 6; k >= 0; k--) {
            c.is("down to the last", x.undo(), k);
        }
        c.is("COIN", x.man(0, 2), 4);
    }

    private static void whatIsUndone() {
        c.says("is undone");
        for (int act = 0; act < 7; act++) {
            RoadToPort x = Stage.six();
            RoadToPort y = Stage.six();
            // What was done ahead of it stays done.
            x.get(1, 9);
            y.get(1, 9);
            c.is("act " + act, done(x, act), true);
            // To enter takes two acts, an oath and the entering.
            c.is("act " + act + " is undone", x.undo(), act == 3 ? 3 : 2);
            if (act == 3) {
                c.is("he WALKS", x.man(0, 0), 1);
                x.undo();
            }
            same("act " + act, x, y);
        }
    }

    /** Each act that can be undone; to enter he must have sworn. */
    private static boolean done(RoadToPort x, int act) {
        switch (act) {
            case 0: return x.swear(0, Stage.PORT, 9) == 0;
            case 1: return x.order(1, 2) == 0;
            case 2: return x.slip(1) == 0;
            case 3: return x.swear(0, Stage.PORT, 9) == 0 && x.enter(0) == 0;
            case 4: return x.get(2, 99) == 0;
            case 5: return x.days(30, 1) == 30;
            default: return Checks.book(x, "cat gets 99;day 30;ann swears p 9;day 2;ann slips;eve slips;", 1) == 5;
        }
    }

    private static void same(String what, RoadToPort x, RoadToPort y) {
        for (int k = 0; k < 7; k++) {
            c.is(what + ": now(" + k + ")", x.now(k), y.now(k));
        }
        for (int m = 0; m < 6; m++) {
            for (int k = 0; k < 14; k++) {
                c.is(what + ": man(" + m + ", " + k + ")", x.man(m, k), y.man(m, k));
            }
        }
        for (int p = 0; p < 6; p++) {
            c.is(what + ": place(" + p + ", 4)", x.place(p, 4), y.place(p, 4));
        }
    }
}
