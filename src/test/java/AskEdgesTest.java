import java.math.BigInteger;

/** Each sentence on what can be asked that names a boundary, in the document's order. */
public final class AskEdgesTest {
    private static final Checks c = new Checks();
    private static final int MIN = Integer.MIN_VALUE;
    private static final int MAX = Integer.MAX_VALUE;
    /** No PLACE of the stage, no MAN of it, no road, or whatever is counted from 0 to 5 at most. */
    private static final int[] NO_SUCH = {-1, -2, 6, 7, 10, 16, 100, MIN, MAX};

    public static void main(String[] args) {
        newObject();
        theTape();
        places();
        roads();
        men();
        aLife();
        theDay();
        counts();
        far();
        way();
        wayAt();
        wayOfAMan();
        planWho();
        planAlike();
        planLikely();
        planAt();
        sent();
        sentTo();
        cut();
        cutAtMost();
        worst();
        ship();
        turnedAsTold();
        turnedWhere();
        thereInTime();
        thereAtTheEnd();
        oath();
        byteAt();
        odds();
        oddsAtTheEnd();
        bookLives();
        bookWhy();
        told();
        saidWhat();
        saidWho();
        aboutOneObject();
        c.close("AskEdgesTest");
    }

    // ---- what is so ----

    private static void newObject() {
        c.says("`RoadToPort()`: An empty LAND; an empty tape.");
        RoadToPort x = new RoadToPort();
        for (int what = 0; what < 5; what++) {
            c.is("count(" + what + ")", x.count(what), 0);
        }
        c.is("place(0, 0)", x.place(0, 0), -1);
        c.is("road(0, 0, 0)", x.road(0, 0, 0), -1);
        c.throwsNoSuch("man(0, 0)", () -> x.man(0, 0));
        c.is("far(0, 0)", x.far(0, 0), -1);
        c.is("way(0, 0)", x.way(0, 0), -1);
        c.is("wayAt(0)", x.wayAt(0), -1);
        c.throwsNoSuch("plan(0, 0)", () -> x.plan(0, 0));
        c.is("planAt(0)", x.planAt(0), -1);
        c.is("sentTo(0)", x.sentTo(0), -1);
        c.is("cut(0, 1)", x.cut(0, 1), -1);
        c.is("cutting()", x.cutting(), -1);
        c.is("worst(0, 1)", x.worst(0, 1), -1);
        c.throwsNoSuch("ship(0, 0, 0)", () -> x.ship(0, 0, 0));
        c.is("least()", x.least(), -1);
        c.is("greatest()", x.greatest(), -1);
        c.is("there(0)", x.there(0), -1);
        c.is("oath(0)", x.oath(0), -1);
        c.is("byteAt(0)", x.byteAt(0), -1);
        c.is("odds(0, 1, 1)", x.odds(0, 1, 1), -1);
        c.is("told(0)", x.told(0), -1);
        c.is("said(-1)", x.said(-1), -1);
        c.is("said(0)", x.said(0), -1);
        c.is("restore(0)", x.restore(0), false);
        c.is("restore(1)", x.restore(1), false);
        c.is("undo()", x.undo(), -1);
        c.is("fault()", x.fault(), 0);
        c.is("sent(): nobody", x.sent(), 0);
        c.is("end(0): an empty tape", x.end(0), true);
        c.is("end(1): an empty tape", x.end(1), false);
        c.is("an image of it", x.image(0), true);
        c.is("sentence(): an empty tape", x.sentence(), -1);
        c.is("land(): an empty tape", x.land(), 0);
        c.is("book(): an empty tape", x.book(1), -1);
    }

    private static void theTape() {
        c.says("Twenty bytes come behind the tape, of each number the highest first: how many it has; NONE, and none come, if it"
                + " would have more than 940.");
        for (int has : new int[] {0, 1, 19, 20, 919, 920, 921, 939, 940}) {
            RoadToPort x = new RoadToPort();
            for (int k = 1; k <= 47; k++) {
                c.is("feed", x.feed(0, 0, 0, 0, 0), 20 * k);
            }
            c.is("feed behind 940", x.feed(1, 2, 3, 4, 5), -1);
            x.end(has);
            c.is("feed behind " + has, x.feed(MIN, MAX, -1, 0, 1), has > 920 ? -1 : has + 20);
            c.is("what it has then", x.count(4), has > 920 ? has : has + 20);
            c.is("no more than that", x.end(x.count(4) + 1), false);
        }
        // Twenty letters, the highest of each number first.
        RoadToPort y = new RoadToPort();
        y.feed(0x63687572, 0x63682061, 0x62636465, 0x66673b69, 0x6e6e2068);
        y.feed(0x696a3b00, 0, 0, 0, 0);
        y.end(23);
        c.is("church abcdefg;inn hij;", y.land(), 2);
        y.feed(0x63687572, 0x63682061, 0x3b202020, 0x20202020, 0x2020203b);
        c.is("the twentieth byte is the lowest of the fifth", y.land(), -1 - 19);
        c.says("The tape has its first n bytes alone: true; false, if it has not so many, or n is below 0.");
        RoadToPort z = new RoadToPort();
        z.feed(0x63687572, 0x63682061, 0x3b696e6e, 0x20623b69, 0x6e6e2063);
        for (int n : new int[] {-1, MIN, 21, 940, MAX}) {
            c.is("end(" + n + ")", z.end(n), false);
            c.is("bytes stay", z.count(4), 20);
        }
        c.is("end(20)", z.end(20), true);
        c.is("bytes", z.count(4), 20);
        c.is("end(15)", z.end(15), true);
        c.is("end(16): it has them no more", z.end(16), false);
        c.is("its first bytes alone", z.land(), 2);
        c.is("end(0) of none", z.end(0), true);
        c.is("end(1) of none", z.end(1), false);
    }

    private static void places() {
        c.says("Of a PLACE: 0 0 a church, 1 an inn, 2 a port; of a port 1 ODDS, 2 PAY, 3 HOLDS (of others 0); 4 MEN that are just"
                + " there (SAFE, WALKING, WAITING), as bits. NONE: no such ones.");
        RoadToPort x = Stage.six();
        int[][] due = {{0, 0, 0, 0, 1}, {2, 12, 50, 1, 4}, {1, 0, 0, 0, 0}, {0, 0, 0, 0, 0}, {2, 12, 0, 2, 0}, {2, 1, 1, 1, 0}};
        for (int p = 0; p < 6; p++) {
            for (int what = 0; what < 5; what++) {
                c.is("place(" + p + ", " + what + ")", x.place(p, what), due[p][what]);
            }
            for (int what : new int[] {-1, 5, MIN, MAX}) {
                c.is("place(" + p + ", " + what + ")", x.place(p, what), -1);
            }
        }
        for (int p : NO_SUCH) {
            for (int what = -1; what < 6; what++) {
                c.is("place(" + p + ", " + what + ")", x.place(p, what), -1);
            }
        }
        // Who slips, is SLAIN or has SAILED is there no more; who WALKS is, on the PLACE itself alone.
        RoadToPort y = Checks.landOf("church a;port p 12 0 1;inn i;road a i 1 0;road i p 2 0;man s a 1 0;man t a 3 0;man u a 1 0;");
        c.is("all SAFE", y.place(0, 4), 7);
        for (int m = 0; m < 3; m++) {
            y.swear(m, 1, 9);
        }
        c.is("all WALKING", y.place(0, 4), 7);
        y.slip(2);
        c.is("an OUTLAW is not there", y.place(0, 4), 3);
        y.days(1, 1);
        c.is("at the inn", y.place(2, 4), 1);
        c.is("WAITING", y.place(1, 4), 2);
        y.days(1, 1);
        c.is("on the road", y.place(2, 4), 0);
        c.is("SAILED", y.place(1, 4), 0);
    }

    private static void roads() {
        c.says("Of the road between two PLACES: 0 MILES, 1 DANGER, 2 whether it has a ford (1, 0). NONE: none, no such ones.");
        RoadToPort x = Stage.six();
        int[][] due = {{0, 2, 4, 12, 0}, {2, 1, 5, 0, 0}, {2, 3, 2, 0, 1}, {0, 4, 2, 0, 0}};
        for (int[] d : due) {
            for (int what = 0; what < 3; what++) {
                c.is("road(" + d[0] + ", " + d[1] + ", " + what + ")", x.road(d[0], d[1], what), d[2 + what]);
                c.is("road(" + d[1] + ", " + d[0] + ", " + what + ")", x.road(d[1], d[0], what), d[2 + what]);
            }
            for (int what : new int[] {-1, 3, MIN, MAX}) {
                c.is("road(" + d[0] + ", " + d[1] + ", " + what + ")", x.road(d[0], d[1], what), -1);
            }
        }
        for (int p = 0; p < 6; p++) {
            c.is("road(" + p + ", " + p + ", 0)", x.road(p, p, 0), -1);
            for (int q : NO_SUCH) {
                c.is("road(" + p + ", " + q + ", 0)", x.road(p, q, 0), -1);
                c.is("road(" + q + ", " + p + ", 1)", x.road(q, p, 1), -1);
            }
        }
        c.is("a way, but no road", x.road(0, 1, 0), -1);
        c.is("no road at all", x.road(0, 5, 2), -1);
    }

    private static void men() {
        c.says("NoSuchElementException: no such ones.");
        RoadToPort x = Stage.six();
        for (int m : NO_SUCH) {
            for (int what : new int[] {-1, 0, 13, 14}) {
                c.throwsNoSuch("man(" + m + ", " + what + ")", () -> x.man(m, what));
            }
        }
        for (int m = 0; m < 6; m++) {
            int who = m;
            for (int what : new int[] {-1, 14, 15, MIN, MAX}) {
                c.throwsNoSuch("man(" + m + ", " + what + ")", () -> x.man(who, what));
            }
            c.is("man(" + m + ", 0)", x.man(m, 0), m);
        }
        c.is("the last what", x.man(1, 13), 5);
    }

    private static void man(RoadToPort x, int... due) {
        for (int what = 0; what < due.length; what++) {
            c.is("man(0, " + what + ")", x.man(0, what), due[what]);
        }
    }

    private static void aLife() {
        c.says("4 how often he swore, 5 his port (NONE: never sworn), 6 the church in which he was last, 7 MILES of his WAY that he has"
                + " gone, 8 all of its MILES (7, 8: SAFE: 0), 9 DAYS that he has yet (0: he does not WALK), 10 what he ordered, 11"
                + " nights that he stayed just now, 12 how often he WADED, 13 MILES that he walked so far.");
        RoadToPort x = Checks.landOf("inn i;church a;church b;port p 12 9 1;port q 12 9 1;road a b 3 0;road b p 4 0;road p q 1 0;man t a 5 8;");
        man(x, 0, 5, 8, 0, 0, -1, 1, 0, 0, 0, 5, 0, 0, 0);
        x.swear(0, 4, 9);
        man(x, 1, 5, 8, 0, 1, 4, 1, 0, 8, 9, 5, 0, 0, 0);
        x.order(0, 3);
        x.days(1, 1);
        // He is at the second church, but was in none but the first.
        man(x, 1, 5, 8, 0, 1, 4, 1, 3, 8, 8, 3, 0, 0, 3);
        x.order(0, 0);
        x.days(1, 1);
        man(x, 1, 5, 8, 0, 1, 4, 1, 3, 8, 7, 0, 1, 0, 3);
        x.enter(0);
        man(x, 0, 5, 8, 0, 1, 4, 2, 0, 0, 0, 0, 0, 0, 3);
        x.swear(0, 3, 1);
        man(x, 1, 5, 8, 0, 2, 3, 2, 0, 4, 1, 5, 0, 0, 3);
        x.days(1, 1);
        man(x, 2, 5, 8, 0, 2, 3, 2, 4, 4, 0, 5, 0, 0, 7);
        x.days(2, 1);
        man(x, 2, 5, 8, 0, 2, 3, 2, 4, 4, 0, 5, 0, 2, 7);
        x.get(0, 1);
        x.days(1, 1);
        man(x, 3, 5, 0, 0, 2, 3, 2, 4, 4, 0, 5, 0, 2, 7);
    }

    private static void theDay() {
        c.says("0 the DAY, 1 who is SAFE, 2 WALKS, 3 WAITS, 4 SAILED, 5 OUTLAWS, 6 SLAIN, as bits each. NONE for another what.");
        RoadToPort x = Stage.six();
        int[] due = {2, 1, 2, 4, 8, 16, 32};
        for (int what = 0; what < 7; what++) {
            c.is("now(" + what + ")", x.now(what), due[what]);
        }
        for (int what : new int[] {-1, 7, 8, MIN, MAX}) {
            c.is("now(" + what + ")", x.now(what), -1);
        }
        RoadToPort y = Checks.landOf("church a;port p 12 0 6;road a p 1 0;man s a 1 0;man t a 1 0;");
        c.is("no more MEN than there are", y.now(1), 3);
        y.swear(1, 1, 1);
        c.is("one SAFE", y.now(1), 1);
        c.is("one WALKS", y.now(2), 2);
    }

    private static void counts() {
        c.says("0 PLACES, 1 roads, 2 MEN, 3 ports, 4 bytes of the tape. NONE for another what.");
        RoadToPort x = Stage.six();
        x.feed(0, 0, 0, 0, 0);
        x.end(17);
        int[] due = {6, 4, 6, 3, 17};
        for (int what = 0; what < 5; what++) {
            c.is("count(" + what + ")", x.count(what), due[what]);
        }
        for (int what : new int[] {-1, 5, MIN, MAX}) {
            c.is("count(" + what + ")", x.count(what), -1);
        }
    }

    // ---- roads ----

    private static void far() {
        c.says("FAR; NONE: there is no road, no such ones.");
        RoadToPort x = Stage.six();
        int[][] due = {{0, 9, 4, 6, 2, -1}, {9, 0, 5, 7, 11, -1}, {4, 5, 0, 2, 6, -1}, {6, 7, 2, 0, 8, -1}, {2, 11, 6, 8, 0, -1},
            {-1, -1, -1, -1, -1, 0}};
        for (int p = 0; p < 6; p++) {
            for (int q = 0; q < 6; q++) {
                c.is("far(" + p + ", " + q + ")", x.far(p, q), due[p][q]);
            }
            for (int q : NO_SUCH) {
                c.is("far(" + p + ", " + q + ")", x.far(p, q), -1);
                c.is("far(" + q + ", " + p + ")", x.far(q, p), -1);
            }
        }
        c.is("far(6, 6)", x.far(6, 6), -1);
        c.is("far(-1, -1)", x.far(-1, -1), -1);
        c.says("FAR: the fewest MILES by roads");
        RoadToPort y = Checks.landOf("church a;inn b;inn d;inn e;road a e 30 0;road a b 10 0;road b d 10 0;road d e 9 0;");
        c.is("by three roads", y.far(0, 3), 29);
        RoadToPort z = Checks.landOf("church a;inn b;inn d;inn e;road a e 30 0;road a b 10 0;road b d 10 0;road d e 10 0;");
        c.is("by either", z.far(0, 3), 30);
        c.is("back", z.far(3, 0), 30);
    }

    private static void way(RoadToPort x, int a, int b, int... due) {
        c.is("way(" + a + ", " + b + ")", x.way(a, b), due.length);
        for (int k = 0; k < due.length; k++) {
            c.is("wayAt(" + k + ") of way(" + a + ", " + b + ")", x.wayAt(k), due[k]);
        }
        c.is("wayAt behind way(" + a + ", " + b + ")", x.wayAt(due.length), -1);
    }

    private static void way() {
        c.says("of like ones the least at the first place at which they differ");
        // From a (0) to z (5) by b (1) and d (3), by b and e (4), by c (2) and d, by c and e: 4 MILES each.
        String text = "church a;inn b;inn c;inn d;inn e;port z 1 1 1;";
        RoadToPort x = Checks.landOf(text + "road c e 1 0;road c d 2 0;road b e 1 0;road b d 2 0;road a c 1 0;road a b 1 0;road d z 1 0;"
                + "road e z 2 0;");
        way(x, 0, 5, 0, 1, 3, 5);
        way(x, 5, 0, 5, 3, 1, 0);
        way(x, 1, 2, 1, 0, 2);
        way(x, 2, 1, 2, 0, 1);
        way(x, 3, 4, 3, 1, 4);
        way(x, 0, 4, 0, 1, 4);
        way(x, 0, 0, 0);
        way(x, 5, 5, 5);
        // The least at the first place counts, not at a later one, nor how many PLACES it has.
        x = Checks.landOf(text + "road a b 2 0;road b e 1 0;road e z 1 0;road a c 2 0;road c z 2 0;road a z 4 0;");
        way(x, 0, 5, 0, 1, 4, 5);
        way(x, 5, 0, 5, 0);
        x = Checks.landOf(text + "road a e 2 0;road e z 2 0;road a c 1 0;road c d 1 0;road d z 2 0;");
        way(x, 0, 5, 0, 2, 3, 5);
        way(x, 5, 0, 5, 3, 2, 0);
        // A MILE less is less, wherever it leads.
        x = Checks.landOf(text + "road a b 2 0;road b z 2 0;road a e 2 0;road e z 1 0;");
        way(x, 0, 5, 0, 4, 5);
        c.says("A WAY: how many PLACES (the first, the last, too); NONE: likewise.");
        x = Stage.six();
        c.is("no road", x.way(0, 5), -1);
        c.is("no road", x.way(5, 0), -1);
        for (int q : NO_SUCH) {
            c.is("way(0, " + q + ")", x.way(0, q), -1);
            c.is("way(" + q + ", 0)", x.way(q, 0), -1);
            c.is("way(" + q + ", " + q + ")", x.way(q, q), -1);
        }
        way(x, 4, 3, 4, 0, 2, 3);
    }

    private static void wayAt() {
        c.says("Its k-th PLACE (from 0), by the latest way() that was not NONE; NONE: none such, or ahead of any.");
        RoadToPort x = Stage.six();
        for (int k : new int[] {0, 1, -1, 9, MIN, MAX}) {
            c.is("ahead of any: wayAt(" + k + ")", x.wayAt(k), -1);
        }
        x.way(0, 5);
        c.is("behind NONE, ahead of any: wayAt(0)", x.wayAt(0), -1);
        way(x, 4, 1, 4, 0, 2, 1);
        for (int k : new int[] {-1, 4, 5, 9, 10, 11, MIN, MAX}) {
            c.is("none such: wayAt(" + k + ")", x.wayAt(k), -1);
        }
        x.way(0, 5);
        x.way(0, 6);
        x.worst(0, 4);
        x.far(0, 4);
        c.is("by the latest that was not NONE", x.wayAt(3), 1);
        way(x, 0, 4, 0, 4);
    }

    private static void wayOfAMan() {
        c.says("he WALKS the WAY to it from his church");
        // Of two like WAYS he takes the one by b (1), though it is dangerous.
        RoadToPort x = Checks.landOf("church a;inn b;inn d;port p 0 0 1;road a d 2 0;road d p 2 0;road b p 2 0;road a b 2 12;man t a 1 0;");
        x.swear(0, 3, 9);
        x.days(1, 1);
        c.is("SLAIN on the road to b", x.man(0, 0), 5);
        RoadToPort y = Checks.landOf("church a;inn d;inn b;port p 0 0 1;road a d 2 0;road d p 2 0;road b p 2 0;road a b 2 12;man t a 1 0;");
        y.swear(0, 3, 9);
        y.days(1, 1);
        c.is("on the road to d", y.man(0, 0), 1);
        y.days(1, 1);
        c.is("at d", y.place(1, 4), 1);
    }

    // ---- PLAN ----

    private static RoadToPort planner(String miles, int danger, int pace, int days) {
        RoadToPort x = Checks.landOf("church a;port p 1 1 1;road a p " + miles + " " + danger + ";man t a " + pace + " 1;");
        x.swear(0, 1, days);
        return x;
    }

    private static void plan(RoadToPort x, long above, long below, int... miles) {
        c.is("plan(0, 0)", x.plan(0, 0), above);
        c.is("plan(0, 1)", x.plan(0, 1), below);
        for (int k = 0; k < 13; k++) {
            c.is("planAt(" + k + ")", x.planAt(k), k < miles.length ? miles[k] : -1);
        }
    }

    private static void planWho() {
        c.says("NoSuchElementException: he does not WALK, has more than 12 DAYS, no such ones.");
        RoadToPort x = Stage.six();
        for (int m : new int[] {0, 2, 3, 4, 5}) {
            c.throwsNoSuch("does not WALK: plan(" + m + ", 0)", () -> x.plan(m, 0));
            c.throwsNoSuch("does not WALK: plan(" + m + ", 1)", () -> x.plan(m, 1));
        }
        c.throwsNoSuch("18 DAYS", () -> x.plan(1, 0));
        for (int m : NO_SUCH) {
            c.throwsNoSuch("plan(" + m + ", 0)", () -> x.plan(m, 0));
        }
        for (int what : new int[] {-1, 2, 3, MIN, MAX}) {
            RoadToPort y = planner("3", 0, 3, 12);
            c.throwsNoSuch("plan(0, " + what + ")", () -> y.plan(0, what));
        }
        for (int days : new int[] {1, 11, 12}) {
            c.is(days + " DAYS", planner("3", 0, 3, days).plan(0, 0), 1);
        }
        for (int days : new int[] {13, 14, 40}) {
            RoadToPort y = planner("20", 0, 1, days);
            c.throwsNoSuch(days + " DAYS", () -> y.plan(0, 0));
        }
        RoadToPort y = planner("20", 0, 20, 13);
        y.order(0, 1);
        y.days(1, 1);
        plan(y, 1, 1, 0, 1, 0, 1, 0, 1, 0, 1, 0, 1, 0, 14);
    }

    private static void planAlike() {
        c.says("on each DAY that he has 0 to PACE MILES (0 not two DAYS one behind the other, nor if he has stayed a night just now)");
        plan(planner("3", 0, 3, 1), 1, 1, 3);
        plan(planner("3", 0, 3, 2), 1, 1, 0, 3);
        plan(planner("3", 0, 3, 3), 1, 1, 0, 1, 2);
        plan(planner("3", 0, 3, 4), 1, 1, 0, 1, 0, 2);
        plan(planner("3", 0, 3, 5), 1, 1, 0, 1, 0, 1, 1);
        plan(planner("3", 0, 3, 6), 1, 1, 0, 1, 0, 1, 0, 1);
        plan(planner("3", 0, 3, 7), 1, 1, 0, 1, 0, 1, 0, 1);
        plan(planner("3", 0, 1, 3), 1, 1, 1, 1, 1);
        plan(planner("3", 0, 1, 4), 1, 1, 0, 1, 1, 1);
        plan(planner("3", 0, 1, 5), 1, 1, 0, 1, 0, 1, 1);
        plan(planner("3", 0, 2, 2), 1, 1, 1, 2);
        plan(planner("20", 0, 20, 1), 1, 1, 20);
        plan(planner("24", 0, 2, 12), 1, 1, 2, 2, 2, 2, 2, 2, 2, 2, 2, 2, 2, 2);
        plan(planner("23", 0, 2, 12), 1, 1, 1, 2, 2, 2, 2, 2, 2, 2, 2, 2, 2, 2);
        plan(planner("22", 0, 2, 12), 1, 1, 0, 2, 2, 2, 2, 2, 2, 2, 2, 2, 2, 2);
        plan(planner("30", 0, 16, 2), 1, 1, 14, 16);
        plan(planner("30", 0, 13, 4), 1, 1, 0, 4, 13, 13);
        // A night just now, and the DAYS that go on.
        RoadToPort x = planner("3", 0, 3, 4);
        x.order(0, 0);
        x.days(1, 1);
        plan(x, 1, 1, 1, 0, 2);
        x.order(0, 1);
        x.days(1, 1);
        plan(x, 1, 1, 0, 2);
        x.days(1, 1);
        plan(x, 1, 1, 1);
        c.says("at the port no more");
        plan(planner("1", 0, 1, 2), 1, 1, 0, 1);
        plan(planner("1", 0, 1, 3), 1, 1, 0, 1);
        c.says("so that he is at his port in time");
        plan(planner("3", 0, 1, 2), 0, 1, 0, 1);
        plan(planner("21", 0, 20, 1), 0, 1, 0);
        plan(planner("25", 0, 2, 12), 0, 1, 0, 1, 0, 1, 0, 1, 0, 1, 0, 1, 0, 1);
    }

    private static void planLikely() {
        c.says("not SLAIN, likeliest; of like ones the first: DAY by DAY the fewest MILES");
        plan(planner("2", 5, 1, 2), 7, 12, 1, 1);
        plan(planner("2", 5, 1, 3), 7, 12, 0, 1, 1);
        plan(planner("2", 5, 1, 4), 7, 12, 0, 1, 1);
        plan(planner("2", 6, 1, 2), 1, 2, 1, 1);
        plan(planner("2", 11, 1, 2), 1, 12, 1, 1);
        plan(planner("2", 12, 1, 2), 0, 1, 0, 1);
        plan(planner("2", 0, 1, 2), 1, 1, 1, 1);
        plan(planner("12", 1, 1, 12), 285311670611L, 743008370688L, 1, 1, 1, 1, 1, 1, 1, 1, 1, 1, 1, 1);
        plan(planner("12", 11, 1, 12), 1, 743008370688L, 1, 1, 1, 1, 1, 1, 1, 1, 1, 1, 1, 1);
        plan(planner("13", 1, 2, 12), 1771561, 2985984, 0, 1, 2, 2, 2, 2, 2, 2);
        // Half of DANGER, cut, with kin.
        RoadToPort x = Checks.landOf("church a;port p 1 1 1;road a p 2 5;man t a 1 1;kin t;");
        x.swear(0, 1, 2);
        plan(x, 5, 6, 1, 1);
        x = Checks.landOf("church a;port p 1 1 1;road a p 2 1;man t a 1 1;kin t;");
        x.swear(0, 1, 2);
        plan(x, 1, 1, 1, 1);
        // At the inn nobody is SLAIN: 2, then 3, rather than 3, then 2; but of like ones the fewest first.
        x = Checks.landOf("church a;inn b;port p 1 1 1;road a b 2 6;road b p 3 6;man t a 3 1;");
        x.swear(0, 2, 2);
        plan(x, 1, 1, 2, 3);
        x = Checks.landOf("church a;inn b;port p 1 1 1;road a b 2 6;road b p 3 6;man t a 3 1;");
        x.swear(0, 2, 3);
        plan(x, 1, 1, 0, 2, 3);
        x = Checks.landOf("church a;inn b;port p 1 1 1;road a b 2 6;road b p 3 6;man t a 3 1;");
        x.swear(0, 2, 4);
        plan(x, 1, 1, 0, 2, 0, 3);
        c.says("PLAN of a MAN who WALKS (fords left out; 12 DAYS at most)");
        // The road on which he ends a DAY counts, not those that he passed; fords are left out.
        x = Checks.landOf("church a;inn b;port p 1 1 1;road a b 2 12 ford;road b p 3 3 ford;man t a 3 1;");
        x.swear(0, 2, 2);
        plan(x, 1, 1, 2, 3);
        x = Checks.landOf("church a;inn b;port p 1 1 1;road a b 2 12 ford;road b p 5 3 ford;man t a 4 1;");
        x.swear(0, 2, 2);
        plan(x, 3, 4, 3, 4);
        // From an inn that he has left behind, of a church that is not the first PLACE.
        x = Checks.landOf("inn x;port p 1 1 1;church a;inn b;road a b 4 0;road b p 9 6;man t a 3 1;");
        x.swear(0, 1, 5);
        x.days(1, Checks.seed(Checks.draw(12, 0, 0)));
        x.order(0, 2);
        x.days(1, Checks.seed(Checks.draw(12, 6, 11)));
        c.is("beyond the inn", x.man(0, 7), 5);
        plan(x, 1, 4, 2, 3, 3);
        // What he ordered does not bind a PLAN; what he has gone already does.
        x = planner("9", 6, 3, 4);
        x.order(0, 1);
        x.days(1, Checks.seed(Checks.draw(12, 6, 11)));
        plan(x, 1, 4, 2, 3, 3);
    }

    private static void planAt() {
        c.says("MILES on its k-th DAY (from 0), by the latest plan(); NONE: he is there, none such, or ahead of any.");
        RoadToPort x = planner("3", 0, 3, 12);
        for (int k : new int[] {0, 11, 12, -1, MIN, MAX}) {
            c.is("ahead of any: planAt(" + k + ")", x.planAt(k), -1);
        }
        plan(x, 1, 1, 0, 1, 0, 1, 0, 1);
        for (int k : new int[] {-1, 6, 11, 12, 13, MIN, MAX}) {
            c.is("none such: planAt(" + k + ")", x.planAt(k), -1);
        }
        c.throwsNoSuch("plan(1, 0)", () -> x.plan(1, 0));
        c.throwsNoSuch("plan(0, 2)", () -> x.plan(0, 2));
        c.is("by the latest that threw nothing", x.planAt(5), 1);
        x.undo();
        c.throwsNoSuch("he does not WALK", () -> x.plan(0, 0));
        c.is("by the latest that threw nothing", x.planAt(5), 1);
        x.swear(0, 1, 1);
        c.is("by the latest that there was", x.planAt(5), 1);
        plan(x, 1, 1, 3);
    }

    // ---- SENT ----

    private static void sent() {
        c.says("to each MAN who is SAFE a port to which there is a road, to each port as many of these as it HOLDS at most");
        for (int holds = 1; holds <= 6; holds++) {
            for (int men = 0; men <= 6; men++) {
                String text = "church a;port p 1 1 " + holds + ";road a p 3 0;";
                for (int m = 0; m < men; m++) {
                    text += "man m" + (char) ('a' + m) + " a 1 0;";
                }
                RoadToPort x = Checks.landOf(text);
                c.is(men + " MEN, HOLDS " + holds, x.sent(), men <= holds ? 3 * men : -1);
                for (int m = 0; m < 6; m++) {
                    c.is("sentTo(" + m + ") of " + men + " MEN, HOLDS " + holds, x.sentTo(m), men <= holds && m < men ? 1 : -1);
                }
            }
        }
        c.says("SENT: MILES in all; NONE: it can't be.");
        c.is("no road to a port", Checks.landOf("church a;port p 1 1 6;man t a 1 0;").sent(), -1);
        c.is("no port", Checks.landOf("church a;inn i;road a i 1 0;man t a 1 0;").sent(), -1);
        c.is("a road for one alone", Checks.landOf("church a;church b;port p 1 1 6;road a p 1 0;man t a 1 0;man u b 1 0;").sent(), -1);
        c.is("nobody, no port", Checks.landOf("church a;").sent(), 0);
        c.is("a way by an inn", Checks.landOf("church a;inn i;port p 1 1 6;road a i 1 0;road i p 2 0;man t a 1 0;").sent(), 3);
        // Who is not SAFE takes no room and needs none.
        RoadToPort x = Checks.landOf("church a;port p 1 1 1;road a p 9 0;man t a 1 0;man u a 1 0;man v a 1 0;");
        c.is("three for one", x.sent(), -1);
        x.swear(0, 1, 40);
        c.is("two for one", x.sent(), -1);
        x.swear(2, 1, 40);
        c.is("one for one", x.sent(), 9);
        c.is("sentTo(0)", x.sentTo(0), -1);
        c.is("sentTo(1)", x.sentTo(1), 1);
        c.is("sentTo(2)", x.sentTo(2), -1);
        x.swear(1, 1, 40);
        c.is("nobody is SAFE", x.sent(), 0);
        c.is("sentTo(1)", x.sentTo(1), -1);
        c.says("so that FAR from their churches is the fewest MILES in all; of like ones the first: MAN by MAN the least port");
        // From the church in which he is, not from the one told.
        x = Checks.landOf("church a;church b;port p 1 1 1;port q 1 1 1;road a p 2 0;road a b 3 0;road b q 1 0;man t a 3 0;");
        c.is("from a", x.sent(), 2);
        c.is("from a", x.sentTo(0), 2);
        x.swear(0, 3, 9);
        x.days(1, 1);
        x.enter(0);
        c.is("from b", x.sent(), 1);
        c.is("from b", x.sentTo(0), 3);
        // All alike: each port is filled from the least on, MAN by MAN.
        String like = "church a;port p 1 1 2;port q 1 1 1;port r 1 1 3;road a r 1 0;road a q 1 0;road a p 1 0;";
        for (int m = 0; m < 6; m++) {
            like += "man m" + (char) ('a' + m) + " a 1 0;";
        }
        x = Checks.landOf(like);
        c.is("all alike", x.sent(), 6);
        int[] due = {1, 1, 2, 3, 3, 3};
        for (int m = 0; m < 6; m++) {
            c.is("sentTo(" + m + ") of like ones", x.sentTo(m), due[m]);
        }
        // The first to the first port, the second to the third one, the one between is far away.
        x = Checks.landOf("church a;church b;port p 1 1 1;port q 1 1 1;port r 1 1 1;road a p 1 0;road a q 20 0;road a b 30 0;"
                + "road b q 20 0;road b r 1 0;man t a 1 0;man u b 1 0;");
        c.is("near each", x.sent(), 2);
        c.is("the first", x.sentTo(0), 2);
        c.is("the second", x.sentTo(1), 4);
        // The fewest MILES go ahead of the least port; the nearest for one may be too far for another.
        x = Checks.landOf("church a;church b;port p 1 1 1;port q 1 1 1;road a p 1 0;road a q 2 0;road b p 1 0;road b q 9 0;"
                + "man t a 1 0;man u b 1 0;");
        c.is("in all", x.sent(), 3);
        c.is("the first gives way", x.sentTo(0), 3);
        c.is("the second goes near", x.sentTo(1), 2);
    }

    private static void sentTo() {
        c.says("Which port a MAN has by the latest sent() that was not NONE; NONE: none, no such one, or ahead of any.");
        RoadToPort x = Stage.six();
        for (int m = 0; m < 6; m++) {
            c.is("ahead of any: sentTo(" + m + ")", x.sentTo(m), -1);
        }
        c.is("sent()", x.sent(), 2);
        c.is("sentTo(0)", x.sentTo(0), Stage.QUAY);
        for (int m = 1; m < 6; m++) {
            c.is("not SAFE: sentTo(" + m + ")", x.sentTo(m), -1);
        }
        for (int m : NO_SUCH) {
            c.is("no such one: sentTo(" + m + ")", x.sentTo(m), -1);
        }
        x.swear(0, Stage.PORT, 5);
        c.is("as it was told", x.sentTo(0), Stage.QUAY);
        c.is("sent() of nobody", x.sent(), 0);
        c.is("none", x.sentTo(0), -1);
    }

    // ---- CUT, worst ----

    private static void cut() {
        c.says("CUT: how many roads (0: there is none already); NONE: more than 4, alike, no such ones.");
        RoadToPort x = Stage.six();
        c.says("Which, as bits, by the latest cut() that was not NONE; NONE ahead of any.");
        c.is("ahead of any: cutting()", x.cutting(), -1);
        for (int p = 0; p < 6; p++) {
            c.is("alike: cut(" + p + ", " + p + ")", x.cut(p, p), -1);
            for (int q : NO_SUCH) {
                c.is("cut(" + p + ", " + q + ")", x.cut(p, q), -1);
                c.is("cut(" + q + ", " + p + ")", x.cut(q, p), -1);
            }
        }
        c.is("behind NONE, ahead of any: cutting()", x.cutting(), -1);
        c.is("there is none", x.cut(0, 5), 0);
        c.is("no road is cut", x.cutting(), 0);
        c.is("one of two roads", x.cut(0, 1), 1);
        c.is("the least as bits", x.cutting(), 1);
        c.is("one road", x.cut(2, 1), 1);
        c.is("it", x.cutting(), 2);
        c.is("there is none", x.cut(5, 0), 0);
        c.is("no road is cut", x.cutting(), 0);
        c.says("of like ones the least as bits");
        // a - b - d - e, the roads of which are numbered from the end, from the beginning, and from the middle on.
        String four = "church a;inn b;inn d;port e 1 1 1;";
        x = Checks.landOf(four + "road d e 1 0;road b d 1 0;road a b 1 0;");
        c.is("one of three", x.cut(0, 3), 1);
        c.is("the least", x.cutting(), 1);
        c.is("one of two", x.cut(0, 2), 1);
        c.is("the least", x.cutting(), 2);
        // Two by two: a-b (twice by f, g) and so on; 4 and 1 is less than 4 and 2.
        x = Checks.landOf(four + "inn f;inn g;road a b 1 0;road b e 1 0;road a d 1 0;road d e 1 0;");
        c.is("two of four", x.cut(0, 3), 2);
        c.is("the least", x.cutting(), 1 + 4);
        x = Checks.landOf(four + "inn f;inn g;road a b 1 0;road a d 1 0;road d e 1 0;road b e 1 0;");
        c.is("two of four", x.cut(3, 0), 2);
        c.is("the least", x.cutting(), 1 + 2);
        // The highest of three is as dear as the two below it are low: fewer roads go first.
        x = Checks.landOf(four + "road a b 1 0;road a d 1 0;road b d 1 0;road d e 1 0;");
        c.is("one, though it is the highest", x.cut(0, 3), 1);
        c.is("the highest", x.cutting(), 8);
    }

    private static void cutAtMost() {
        c.says("the fewest roads (4 at most) without which no road leads from a PLACE to another one");
        // By so many inns from a to z.
        for (int by = 0; by <= 6; by++) {
            String text = "church a;port z 1 1 1;";
            for (int k = 0; k < by; k++) {
                text += "inn i" + (char) ('a' + k) + ";";
            }
            for (int k = 0; k < by; k++) {
                text += "road a i" + (char) ('a' + k) + " 1 0;road i" + (char) ('a' + k) + " z 1 0;";
            }
            RoadToPort x = Checks.landOf(text);
            c.is("cut() by " + by, x.cut(0, 1), by > 4 ? -1 : by);
            int bits = 0;
            for (int k = 0; k < by; k++) {
                bits |= 1 << 2 * k;
            }
            c.is("cutting() by " + by, x.cutting(), by > 4 ? -1 : bits);
            if (by > 4) {
                c.is("one inn is cut off", x.cut(0, 2), 2);
                c.is("cutting() of it", x.cutting(), 3);
                c.is("more than 4", x.cut(1, 0), -1);
                c.is("by the latest cut() that was not NONE", x.cutting(), 3);
            }
        }
        // The roads of the highest numbers.
        String text = "church a;inn b;inn d;inn e;inn f;inn g;port z 1 1 1;";
        String[] two = {"a b", "a d", "a e", "a f", "a g", "b d", "b e", "b f", "b g", "d e", "d f", "d g"};
        for (String ab : two) {
            text += "road " + ab + " 1 0;";
        }
        RoadToPort x = Checks.landOf(text + "road d z 1 0;road e z 1 0;road f z 1 0;road g z 1 0;");
        c.is("four at the end", x.cut(0, 6), 4);
        c.is("roads 12 to 15", x.cutting(), 15 << 12);
        c.is("back", x.cut(6, 0), 4);
        c.is("the same", x.cutting(), 15 << 12);
    }

    private static void worst() {
        c.says("The road on a WAY with the greatest DANGER (of like ones the first along it); NONE: there is no road, alike, no such"
                + " ones.");
        RoadToPort x = Stage.six();
        for (int p = 0; p < 6; p++) {
            c.is("alike: worst(" + p + ", " + p + ")", x.worst(p, p), -1);
            for (int q : NO_SUCH) {
                c.is("worst(" + p + ", " + q + ")", x.worst(p, q), -1);
                c.is("worst(" + q + ", " + p + ")", x.worst(q, p), -1);
            }
        }
        c.is("no road", x.worst(0, 5), -1);
        c.is("no road", x.worst(5, 0), -1);
        c.is("the first of two", x.worst(0, 1), 0);
        c.is("the last of two", x.worst(1, 0), 0);
        c.is("all of DANGER 0: the first along", x.worst(1, 3), 1);
        c.is("all of DANGER 0, back: the first along", x.worst(3, 1), 2);
        c.is("of three the middle one", x.worst(4, 1), 0);
        // On the WAY alone, and on the least of like ones.
        x = Checks.landOf("church a;inn b;inn d;port p 1 1 1;road a d 1 9;road d p 1 9;road a b 1 2;road b p 1 1;road a p 3 12;");
        c.is("by b", x.worst(0, 3), 2);
        c.is("back by b", x.worst(3, 0), 2);
        c.is("by one road", x.worst(0, 2), 0);
    }

    // ---- SHIP ----

    private static void ship() {
        c.says("All fractions are told by two numbers: 0 above, 1 below, in least terms.");
        RoadToPort half = Checks.landOf("port p 6 1 1;port q 0 1 1;port r 12 1 1;");
        c.is("a half, above", half.ship(0, 1, 0), 1);
        c.is("a half, below", half.ship(0, 1, 1), 2);
        c.is("nothing, above", half.ship(1, 8, 0), 0);
        c.is("nothing, below", half.ship(1, 8, 1), 1);
        c.is("all, above", half.ship(2, 8, 0), 1);
        c.is("all, below", half.ship(2, 8, 1), 1);
        c.says("SHIP: how likely one goes from a port in n DAYS.");
        c.is("in 0 DAYS none goes, above", half.ship(2, 0, 0), 0);
        c.is("in 0 DAYS none goes, below", half.ship(2, 0, 1), 1);
        c.says("SHIP from a port in n (0 to 8) DAYS. NoSuchElementException: no such ones, another PLACE.");
        for (int odds = 0; odds <= 12; odds++) {
            RoadToPort x = Checks.landOf("church a;inn i;port p " + odds + " 1 1;");
            for (int n = 0; n <= 8; n++) {
                BigInteger all = BigInteger.valueOf(12).pow(n);
                BigInteger some = all.subtract(BigInteger.valueOf(12 - odds).pow(n));
                BigInteger common = all.gcd(some);
                c.is("ODDS " + odds + ": ship(2, " + n + ", 0)", x.ship(2, n, 0), some.divide(common).longValueExact());
                c.is("ODDS " + odds + ": ship(2, " + n + ", 1)", x.ship(2, n, 1), all.divide(common).longValueExact());
            }
        }
        RoadToPort x = Stage.six();
        for (int n : new int[] {-1, 9, 10, MIN, MAX}) {
            c.throwsNoSuch("ship(1, " + n + ", 0)", () -> x.ship(1, n, 0));
        }
        for (int what : new int[] {-1, 2, MIN, MAX}) {
            c.throwsNoSuch("ship(1, 8, " + what + ")", () -> x.ship(1, 8, what));
        }
        for (int p : new int[] {Stage.CHURCH, Stage.INN, Stage.CELL}) {
            c.throwsNoSuch("another PLACE: ship(" + p + ", 1, 0)", () -> x.ship(p, 1, 0));
        }
        for (int p : NO_SUCH) {
            c.throwsNoSuch("no such PLACE: ship(" + p + ", 1, 0)", () -> x.ship(p, 1, 0));
        }
        c.is("the first port", x.ship(1, 0, 1), 1);
        c.is("the last port", x.ship(5, 1, 1), 12);
    }

    // ---- TURNED ----

    private static int turned(RoadToPort x, int m, int... seen) {
        StringBuilder text = new StringBuilder();
        for (int at : seen) {
            text.append((char) at);
        }
        Checks.tell(x, text.toString());
        int found = x.turned(m);
        c.is("the tape is empty then", x.count(4), 0);
        return found;
    }

    private static RoadToPort tracked() {
        RoadToPort x = Checks.landOf("church a;inn b;port p 1 1 1;road a b 8 0;road b p 4 0;man t a 4 1;");
        x.swear(0, 2, 9);
        return x;
    }

    private static void turnedAsTold() {
        c.says("TURNED for a MAN: how many milestones; NONE: he does not WALK, not as told (none above the MILES of his WAY), no such"
                + " one.");
        RoadToPort x = Stage.six();
        for (int m : new int[] {0, 2, 3, 4, 5}) {
            c.is("does not WALK: turned(" + m + ")", turned(x, m, 0, 0), -1);
        }
        for (int m : NO_SUCH) {
            c.is("no such one: turned(" + m + ")", turned(x, m, 0, 0), -1);
        }
        c.is("ahead of any: least()", x.least(), -1);
        c.is("ahead of any: greatest()", x.greatest(), -1);
        c.is("he WALKS", turned(x, 1, 0, 0), 3);
        c.says("TURNED by the tape (2 to 20 bytes");
        for (int n = 0; n <= 25; n++) {
            c.is(n + " bytes", turned(tracked(), 0, new int[n]), n < 2 || n > 20 ? -1 : 3);
        }
        c.is("940 bytes", turned(tracked(), 0, new int[940]), -1);
        c.says("none above the MILES of his WAY");
        for (int at = 0; at < 256; at++) {
            int found = turned(tracked(), 0, at, at);
            c.is("seen at " + at, found, at > 12 ? -1 : Math.min(3, 13 - at));
        }
        c.is("the last one above", turned(tracked(), 0, 1, 2, 13), -1);
        c.is("the first one above", turned(tracked(), 0, 13, 2, 1), -1);
        c.is("one between above", turned(tracked(), 0, 9, 13, 9), -1);
    }

    private static void turnedWhere() {
        c.says("milestones (0 to the MILES of his WAY) at which he can have turned once");
        c.is("at the church", turned(tracked(), 0, 0, 0), 3);
        c.says("up to a DAY he did not go back, from the next one on he did not go on, never more than PACE in a DAY; between these"
                + " two DAYS he went to the milestone and back.");
        RoadToPort x = tracked();
        int[][] cases = {
            // bytes .., -1, how many, least, greatest
            {0, 0, -1, 3, 0, 2}, {0, 1, -1, 2, 1, 2}, {0, 2, -1, 2, 2, 3}, {0, 3, -1, 1, 3, 3}, {0, 4, -1, 1, 4, 4},
            {4, 0, -1, 1, 4, 4}, {3, 0, -1, 1, 3, 3}, {12, 12, -1, 1, 12, 12}, {11, 12, -1, 1, 12, 12}, {12, 11, -1, 1, 12, 12},
            {12, 8, -1, 1, 12, 12}, {8, 12, -1, 1, 12, 12}, {11, 11, -1, 2, 11, 12}, {10, 10, -1, 3, 10, 12}, {9, 9, -1, 3, 9, 11},
            // up to a DAY he did not go back, from the next one on he did not go on
            {1, 2, 3, -1, 2, 3, 4}, {3, 2, 1, -1, 2, 3, 4}, {1, 1, 1, -1, 3, 1, 3}, {1, 3, 3, 1, -1, 3, 3, 5},
            // never more than PACE in a DAY
            {0, 4, 8, 12, 8, 4, 0, -1, 1, 12, 12}, {0, 4, 8, 8, 4, 0, -1, 3, 8, 10}, {0, 4, 8, 7, 3, -1, 2, 8, 9},
        };
        for (int[] one : cases) {
            int n = 0;
            while (one[n] != -1) {
                n++;
            }
            int[] seen = java.util.Arrays.copyOf(one, n);
            String what = java.util.Arrays.toString(seen);
            c.is("turned by " + what, turned(x, 0, seen), one[n + 1]);
            c.is("least by " + what, x.least(), one[n + 2]);
            c.is("greatest by " + what, x.greatest(), one[n + 3]);
        }
        c.says("The greatest of these; NONE ahead of any.");
        c.is("ahead of any: greatest()", tracked().greatest(), -1);
        c.says("The least of these by the latest turned() above 0; NONE ahead of any.");
        c.is("ahead of any: least()", tracked().least(), -1);
        turned(x, 0, 1, 2, 3);
        int[][] none = {{0, 5}, {5, 0}, {0, 5, 5}, {5, 5, 0}, {2, 1, 2}, {3, 2, 2, 3}, {0, 1, 0, 1}, {0, 4, 9, 9}, {9, 4, 4}};
        for (int[] seen : none) {
            c.is("none by " + java.util.Arrays.toString(seen), turned(x, 0, seen), 0);
            c.is("least() stays", x.least(), 3);
            c.is("greatest() stays", x.greatest(), 4);
        }
        c.is("NONE", turned(x, 0, 1), -1);
        c.is("least() stays", x.least(), 3);
        c.is("greatest() stays", x.greatest(), 4);
        x.slip(0);
        c.is("NONE", turned(x, 0, 1, 1), -1);
        c.is("least() stays", x.least(), 3);
        c.is("greatest() stays", x.greatest(), 4);
        RoadToPort y = tracked();
        c.is("none", turned(y, 0, 0, 5), 0);
        c.is("ahead of any above 0: least()", y.least(), -1);
        c.is("ahead of any above 0: greatest()", y.greatest(), -1);
        // Where he is now, what he ordered and how long he has are nothing to it.
        y.order(0, 1);
        y.days(1, 1);
        c.is("twenty DAYS", turned(y, 0, 0, 1, 2, 3, 4, 5, 6, 7, 8, 9, 9, 8, 7, 6, 5, 4, 3, 2, 1, 0), 3);
        c.is("least()", y.least(), 9);
        c.is("greatest()", y.greatest(), 11);
    }

    // ---- THERE ----

    private static void thereInTime() {
        c.says("THERE: the DAY; NONE: he does not WALK, not in time, he would be an OUTLAW, no such one.");
        RoadToPort x = Stage.six();
        for (int m : new int[] {0, 2, 3, 4, 5}) {
            c.is("does not WALK: there(" + m + ")", x.there(m), -1);
        }
        for (int m : NO_SUCH) {
            c.is("no such one: there(" + m + ")", x.there(m), -1);
        }
        c.is("4 MILES by one a DAY from DAY 2 on", x.there(1), 5);
        x.order(1, 2);
        c.is("by two", x.there(1), 3);
        x.order(1, 3);
        c.is("by three", x.there(1), 3);
        x.order(1, 4);
        c.is("by four: the DAY that goes now", x.there(1), 2);
        x.order(1, 0);
        c.is("by none", x.there(1), -1);
        c.says("THERE: if there are no fords and nobody slays anyone, and he goes as he ordered: the DAY (the one that goes then) on"
                + " which he comes to his port in time.");
        for (int days = 1; days <= 12; days++) {
            for (int pace = 0; pace <= 10; pace++) {
                RoadToPort y = Checks.landOf("church a;inn b;port p 1 1 1;road a b 4 12 ford;road b p 5 12;man t a 10 1;");
                y.days(3, 1);
                y.swear(0, 2, days);
                y.order(0, pace);
                int needed = pace == 0 ? 99 : (9 + pace - 1) / pace;
                c.is("9 MILES by " + pace + " in " + days, y.there(0), needed <= days ? 3 + needed - 1 : -1);
            }
        }
        // A night that he has stayed is none of an OUTLAW's if he goes.
        RoadToPort z = planner("9", 0, 3, 4);
        z.order(0, 0);
        z.days(1, 1);
        c.is("a night more", z.there(0), -1);
        z.order(0, 3);
        c.is("in just as many DAYS", z.there(0), 3);
    }

    private static void thereAtTheEnd() {
        c.says("A DAY (0 to 399; 400: all are over) goes");
        for (int day = 395; day <= 400; day++) {
            RoadToPort x = Checks.landOf("church a;port p 1 1 1;road a p 9 0;man t a 3 1;");
            for (int k = 0; k < 13; k++) {
                x.days(30, k);
            }
            x.days(day - 390, 1);
            x.swear(0, 1, 40);
            c.is("on DAY " + day, x.there(0), day + 2 <= 399 ? day + 2 : -1);
            c.is("by the DAYS themselves on DAY " + day, x.days(3, 1) == 3 && x.man(0, 0) == 2, day + 2 <= 399);
        }
    }

    // ---- OATH ----

    private static void oathIs(RoadToPort x, int m, String due) {
        c.is("oath(" + m + ")", x.oath(m), due.length());
        for (int i = 0; i < due.length(); i++) {
            c.is("byte " + i + " of \"" + due + "\"", x.byteAt(i), due.charAt(i));
        }
        c.is("byte behind \"" + due + "\"", x.byteAt(due.length()), -1);
    }

    private static void oath() {
        c.says("OATH of a MAN: his NAME, then ' in ' and the church's NAME, ' to ' and the port's NAME, a blank and the DAYS that he has"
                + " as digits, ' waits', ' sailed', ' outlaw', ' slain'.");
        RoadToPort x = Stage.six();
        oathIs(x, 0, "ann in abbey");
        oathIs(x, 1, "bob to p 18");
        oathIs(x, 2, "cat waits");
        oathIs(x, 3, "dan sailed");
        oathIs(x, 4, "eve outlaw");
        oathIs(x, 5, "fox slain");
        for (int days = 1; days <= 40; days++) {
            RoadToPort y = Checks.landOf("church zyxwvut;port abcdefg 1 1 1;road zyxwvut abcdefg 1 0;man hijklmn zyxwvut 1 1;");
            y.swear(0, 1, days);
            oathIs(y, 0, "hijklmn to abcdefg " + days);
            if (days == 40) {
                y.enter(0);
                oathIs(y, 0, "hijklmn in zyxwvut");
            }
        }
        // The port to which he swore last, the church in which he is now.
        RoadToPort z = Checks.landOf("church a;church b;port p 1 1 1;port q 1 1 1;road a b 1 0;road b p 1 0;road b q 1 0;man t a 1 0;");
        z.swear(0, 2, 9);
        oathIs(z, 0, "t to p 9");
        z.days(1, 1);
        z.enter(0);
        oathIs(z, 0, "t in b");
        z.swear(0, 3, 1);
        oathIs(z, 0, "t to q 1");
        c.says("OATH of a MAN: how many bytes; NONE: no such one.");
        for (int m : NO_SUCH) {
            c.is("oath(" + m + ")", x.oath(m), -1);
            c.is("the latest one stays", x.byteAt(0), 'f');
        }
    }

    private static void byteAt() {
        c.says("Byte i of the latest OATH; NONE: none such.");
        RoadToPort x = Stage.six();
        for (int i : new int[] {0, -1, 20, 31, 32, MIN, MAX}) {
            c.is("ahead of any: byteAt(" + i + ")", x.byteAt(i), -1);
        }
        x.oath(0);
        c.is("the last byte", x.byteAt(11), 'y');
        for (int i : new int[] {12, 13, 31, 32, 33, -1, MIN, MAX}) {
            c.is("none such: byteAt(" + i + ")", x.byteAt(i), -1);
        }
        x.oath(5);
        c.is("of a shorter one", x.byteAt(8), 'n');
        for (int i = 9; i < 13; i++) {
            c.is("nothing of the longer one: byteAt(" + i + ")", x.byteAt(i), -1);
        }
        x.days(1, 1);
        c.is("the latest OATH stays as it was told", x.byteAt(8), 'n');
    }

    // ---- odds ----

    private static void odds() {
        c.says("Of n (1 to 30) seeds x, x and 1, .. by how many a MAN has SAILED behind 30 DAYS from now on with it; NONE: no such"
                + " ones.");
        RoadToPort x = Stage.six();
        x.get(2, 99);
        int[] due = {0, 0, 1, 1, 0, 0};
        for (int n : new int[] {1, 2, 29, 30}) {
            for (int m = 0; m < 6; m++) {
                c.is("odds(" + m + ", " + n + ", 5)", x.odds(m, n, 5), due[m] * n);
            }
        }
        for (int n : new int[] {0, -1, 31, MIN, MAX}) {
            c.is("odds(2, " + n + ", 5)", x.odds(2, n, 5), -1);
            c.is("of one who has SAILED: odds(3, " + n + ", 5)", x.odds(3, n, 5), -1);
        }
        for (int m : NO_SUCH) {
            c.is("odds(" + m + ", 1, 5)", x.odds(m, 1, 5), -1);
        }
        c.is("all stays", x.now(0) + x.man(2, 2), 2 + 106);
    }

    /** A DAY's MILE to a port from which a ship goes each DAY. */
    private static RoadToPort onDay(int day) {
        RoadToPort x = Checks.landOf("church a;port p 12 0 1;road a p 1 0;man t a 1 1;");
        for (int k = 0; k < day / 30; k++) {
            x.days(30, k);
        }
        if (day % 30 > 0) {
            x.days(day % 30, 1);
        }
        return x;
    }

    private static void oddsAtTheEnd() {
        c.says("behind 30 DAYS from now on with it");
        for (int miles = 27; miles <= 30; miles++) {
            RoadToPort x = Checks.landOf("church a;port p 12 0 1;road a p " + miles + " 0;man t a 1 1;");
            x.swear(0, 1, 40);
            // A DAY for each MILE, and one for the ship.
            c.is(miles + " MILES, and a ship", x.odds(0, 4, MAX), miles + 1 <= 30 ? 4 : 0);
            x.days(1, 1);
            c.is(miles + " MILES, a DAY ahead", x.odds(0, 4, MAX), 4);
        }
        c.says("A DAY (0 to 399; 400: all are over) goes");
        for (int day = 395; day <= 400; day++) {
            RoadToPort x = onDay(day);
            x.swear(0, 1, 9);
            c.is("he WALKS on DAY " + day, x.odds(0, 3, 1), day <= 398 ? 3 : 0);
        }
        RoadToPort z = onDay(398);
        z.swear(0, 1, 9);
        z.days(1, 1);
        c.is("he WAITS on DAY 399", z.odds(0, 3, 1), 3);
        z.days(1, 1);
        c.is("he has SAILED on DAY 400", z.odds(0, 3, 1), 3);
    }

    // ---- BOOK ----

    private static void bookLives() {
        c.says("-1000: another lives (the tape stays)");
        for (int lives : new int[] {-1, 2, 3, MIN, MAX}) {
            RoadToPort x = Stage.six();
            Checks.land(x, "x");
            Checks.tell(x, "day 1;");
            c.is("book(" + lives + ")", x.book(lives), -1000);
            c.is("the tape stays", x.count(4), 6);
            c.is("the FAULT stays", x.fault(), 1);
            c.is("what was told stays", x.told(1), 8 + 1);
            c.is("it is read then", x.book(1), -1);
            c.is("a LINE", x.told(1), 1);
            c.is("the FAULT is gone", x.fault(), 0);
        }
        c.says("it is judged, all staying as it is (lives 0), or lived as far as it is not WRONG (1)");
        RoadToPort x = Stage.six();
        c.is("judged", Checks.book(x, "day 1;cat gets 99;day 1;ann slips;day 1;", 0), 3);
        c.is("the DAY then", x.told(2), 4);
        c.is("who has SAILED then", x.told(3), 12);
        c.is("the DAY now", x.now(0), 2);
        c.is("who has SAILED now", x.now(4), 8);
        c.is("COIN now", x.man(2, 2), 7);
        c.is("lived", Checks.book(x, "day 1;cat gets 99;day 1;ann slips;day 1;", 1), 3);
        c.is("the DAY now", x.now(0), 4);
        c.is("who has SAILED now", x.now(4), 12);
        c.is("COIN now", x.man(2, 2), 56);
        c.is("of a BOOK a LINE was lived: it can be undone", x.undo(), 1);
        c.is("the DAY before", x.now(0), 2);
        c.is("no LINE is lived", Checks.book(x, "ann slips;day 1;", 1), 0);
        c.is("no LINE there is", Checks.book(x, "", 1), -1);
        c.is("those are no acts", x.undo(), 0);
        c.says("the LINE that is WRONG (from 0); NONE: none; -2 less the place of a FAULT");
        x = Stage.six();
        c.is("a FAULT at the first byte", Checks.book(x, "x", 1), -2);
        c.is("a FAULT at the end of no byte but a blank", Checks.book(x, " x", 1), -3);
        c.is("a FAULT behind LINES that could be lived", Checks.book(x, "day 1;day 1;day 0;", 1), -2 - 16);
        c.is("none of them is lived", x.now(0), 2);
        c.is("the first LINE is WRONG", Checks.book(x, "eve slips;", 1), 0);
        c.is("the last LINE is WRONG", Checks.book(x, "day 1;eve slips;", 0), 1);
    }

    private static void wrong(String text, int line, int why) {
        RoadToPort x = Stage.six();
        c.is("book of \"" + text + "\"", Checks.book(x, text, 0), line);
        c.is("why of \"" + text + "\"", x.told(0), why);
        c.is("LINES ahead of \"" + text + "\"", x.told(1), line >= 0 ? line : text.chars().filter(s -> s == ';').count());
    }

    private static void bookWhy() {
        c.says("0 why it was WRONG (0: it was not; as for swearing, 10 more as for ordering, 20 for slipping, 30 for entering, 40 for"
                + " getting; 51: fewer DAYS are left)");
        for (String who : new String[] {"bob", "cat", "dan", "eve", "fox"}) {
            wrong(who + " swears p 9;", 0, 1);
            wrong(who + " swears far 9;", 0, 1);
        }
        wrong("ann swears far 9;", 0, 2);
        wrong("ann swears p 9;ann enters;ann swears p 9;ann enters;ann swears p 9;", 4, 3);
        wrong("ann swears p 9;ann enters;ann swears p 9;ann enters;ann swears far 9;", 4, 2);
        wrong("ann swears p 40;", -1, 0);
        for (String who : new String[] {"ann", "cat", "dan", "eve", "fox"}) {
            wrong(who + " orders 20;", 0, 11);
            wrong(who + " slips;", 0, 21);
            wrong(who + " enters;", 0, 31);
        }
        wrong("bob orders 4;", -1, 0);
        wrong("bob orders 5;", 0, 12);
        wrong("bob orders 1;", 0, 13);
        wrong("bob slips;", -1, 0);
        wrong("bob slips;bob slips;", 1, 21);
        wrong("bob enters;", 0, 32);
        wrong("ann swears p 9;ann enters;", -1, 0);
        for (String who : new String[] {"dan", "eve", "fox"}) {
            wrong(who + " gets 1;", 0, 41);
        }
        wrong("ann gets 99;bob gets 99;cat gets 99;", -1, 0);
        // Of 398 DAYS as many as are left are none too few.
        String most = "day 30;".repeat(13);
        wrong(most + "day 7;", -1, 0);
        wrong(most + "day 8;", -1, 0);
        wrong(most + "day 9;", 13, 51);
        wrong(most + "day 30;", 13, 51);
        wrong(most + "day 7;day 1;day 1;", 15, 51);
        wrong(most + "day 8;day 1;", 14, 51);
        RoadToPort x = Stage.six();
        c.is("51: that LINE is not lived at all", Checks.book(x, most + "day 9;", 1), 13);
        c.is("the DAY", x.now(0), 392);
        c.is("the DAY then", x.told(2), 392);
        c.says("of 'day' 1 to 30: its seed, too");
        RoadToPort y = Stage.six();
        RoadToPort z = Stage.six();
        Checks.book(y, "cat gets 99;ann swears p 9;day 2;day 1;", 1);
        z.get(2, 99);
        z.swear(0, 1, 9);
        z.days(2, 2);
        z.days(1, 1);
        for (int m = 0; m < 6; m++) {
            for (int what = 0; what < 14; what++) {
                c.is("as the calls: man(" + m + ", " + what + ")", y.man(m, what), z.man(m, what));
            }
        }
    }

    private static void told() {
        c.says("Of the latest book() that had no FAULT (and was not -1000)");
        RoadToPort x = Checks.landOf(Stage.LAND);
        for (int what = -1; what < 5; what++) {
            c.is("ahead of any: told(" + what + ")", x.told(what), -1);
        }
        Checks.book(x, "day 0;", 1);
        x.book(7);
        for (int what = 0; what < 4; what++) {
            c.is("behind a FAULT, ahead of any: told(" + what + ")", x.told(what), -1);
        }
        x.book(0);
        for (int what = 0; what < 4; what++) {
            c.is("of an empty BOOK: told(" + what + ")", x.told(what), 0);
        }
        Checks.book(x, Stage.BOOK + "fox slips;", 0);
        int[] due = {21, 9, 2, 8};
        for (int what = 0; what < 4; what++) {
            c.is("told(" + what + ")", x.told(what), due[what]);
        }
        Checks.book(x, "day 0;", 1);
        x.book(-1);
        Checks.sentence(x, "safe");
        x.days(9, 1);
        for (int what = 0; what < 4; what++) {
            c.is("it stays: told(" + what + ")", x.told(what), due[what]);
        }
        c.says("NONE: another what, or ahead of any.");
        for (int what : new int[] {-1, 4, 5, MIN, MAX}) {
            c.is("told(" + what + ")", x.told(what), -1);
        }
        c.says("1 how many LINES are ahead of the one that is WRONG (all, if none is), 2 the DAY then, 3 who has SAILED then, as bits");
        String all = "port p 12 0 6;church a;inn b;inn d;inn e;inn f;inn g;inn h;inn i;inn j;road a p 1 0;road p b 1 0;road p d 1 0;"
                + "road p e 1 0;road p f 1 0;road p g 1 0;road p h 1 0;road p i 1 0;road p j 1 0;road a b 1 0;road a d 1 0;"
                + "road a e 1 0;road a f 1 0;road a g 1 0;road a h 1 0;road a i 1 0;";
        for (char k = 'a'; k < 'g'; k++) {
            all += "man m" + k + " a 1 0;";
        }
        x = Checks.landOf(all);
        Checks.book(x, "mf swears p 1;mb swears p 1;day 2;", 0);
        c.is("the second and the sixth", x.told(3), 34);
        Checks.book(x, "ma swears p 1;mb swears p 1;mc swears p 1;md swears p 1;me swears p 1;mf swears p 1;day 1;", 0);
        c.is("nobody yet", x.told(3), 0);
        Checks.book(x, "ma swears p 1;mb swears p 1;mc swears p 1;md swears p 1;me swears p 1;mf swears p 1;day 2;ma slips;", 0);
        c.is("all", x.told(3), 63);
    }

    // ---- SENTENCE ----

    private static void said(RoadToPort x, String text, int... due) {
        Checks.sentence(x, text);
        c.is("how many: " + text, x.said(-1), due.length);
        for (int k = 0; k < due.length; k++) {
            c.is("said(" + k + "): " + text, x.said(k), due[k]);
        }
        c.is("behind the last: " + text, x.said(due.length), -1);
    }

    private static void saidWhat() {
        c.says("'safe' | 'walks' | 'waits' | 'sailed' | 'outlaw' | 'slain' | 'kin' (he has some) | 'to' PLACE (he swore to that port last)");
        String[] how = {"safe", "walks", "waits", "sailed", "outlaw", "slain"};
        RoadToPort x = Stage.six();
        for (int m = 0; m < 6; m++) {
            said(x, how[m], m);
        }
        said(x, "kin", 0);
        said(x, "to p", 1, 2, 5);
        said(x, "to quay", 3, 4);
        said(x, "to far");
        said(x, "to abbey");
        said(x, "to bell");
        c.says("'at' PLACE (he is just there; of who is safe, walks, waits)");
        said(x, "at abbey", 0);
        said(x, "at p", 2);
        said(x, "at quay");
        said(x, "at bell");
        said(x, "at cell");
        c.says("(DAYS that he has yet, who does not walk: 0; MILES that he walked so far; his number)");
        said(x, "days=0", 0, 2, 3, 4, 5);
        said(x, "days>0", 1);
        said(x, "days=18", 1);
        said(x, "days<18", 0, 2, 3, 4, 5);
        said(x, "days>18");
        said(x, "miles=0", 0, 4);
        said(x, "miles=2", 3, 5);
        said(x, "miles<5", 0, 3, 4, 5);
        said(x, "miles>5", 2);
        said(x, "miles=5", 1);
        said(x, "miles>4", 1, 2);
        said(x, "number=5", 5);
        said(x, "number<1", 0);
        said(x, "number>4", 5);
        said(x, "number>5");
        said(x, "number<0");
        said(x, "coin=7", 0, 1, 2, 3, 4, 5);
        said(x, "coin<7");
        said(x, "coin>7");
        said(x, "coin>6", 0, 1, 2, 3, 4, 5);
        said(x, "coin<8", 0, 1, 2, 3, 4, 5);
        for (int k = 0; k < 11; k++) {
            x.get(0, 99);
        }
        said(x, "coin=999", 0);
        said(x, "coin>998", 0);
        said(x, "coin<999", 1, 2, 3, 4, 5);
        // He swore to p, is SAFE again, swears to another one.
        x = Stage.six();
        said(x, "to quay", 3, 4);
        x.swear(0, Stage.PORT, 9);
        c.is("it is said of who is so now", x.said(-1), 2);
        said(x, "to p", 0, 1, 2, 5);
        x.enter(0);
        c.is("last, though he is SAFE", x.said(-1), 4);
        x.swear(0, Stage.QUAY, 9);
        c.is("no more", x.said(-1), 3);
        said(x, "at abbey and walks", 0);
    }

    private static void saidWho() {
        c.says("MEN of whom it may be said: how many (k NONE), or the k-th. NONE: there is no SENTENCE, none such.");
        RoadToPort x = Stage.six();
        for (int k : new int[] {-1, 0, 1, -2, MIN, MAX}) {
            c.is("no SENTENCE: said(" + k + ")", x.said(k), -1);
        }
        said(x, "not number=3", 0, 1, 2, 4, 5);
        for (int k : new int[] {-2, 5, 6, MIN, MAX}) {
            c.is("none such: said(" + k + ")", x.said(k), -1);
        }
        said(x, "number>9");
        c.is("how many", x.said(-1), 0);
        c.is("of an empty LAND", Checks.sentence(new RoadToPort(), "safe"), 1);
        RoadToPort y = new RoadToPort();
        Checks.sentence(y, "not safe");
        c.is("of an empty LAND: how many", y.said(-1), 0);
        c.is("of an empty LAND: the first", y.said(0), -1);
        c.says("-1 less the place of a FAULT: the SENTENCE before stays");
        said(x, "number=3", 3);
        c.is("a FAULT", Checks.sentence(x, "safe or"), -1 - 7);
        c.is("the SENTENCE before", x.said(0), 3);
        c.is("another FAULT", Checks.sentence(x, "outlaw and walks and at x"), -1 - 24);
        c.is("the SENTENCE before", x.said(0), 3);
        c.is("none of the tape", x.sentence(), -1);
        c.is("the SENTENCE before", x.said(-1), 1);
        RoadToPort z = Stage.six();
        c.is("a FAULT", Checks.sentence(z, "safe or"), -1 - 7);
        c.is("there is no SENTENCE", z.said(-1), -1);
    }

    private static void aboutOneObject() {
        c.says("An object is used for at most 512 calls after it has been made");
        RoadToPort x = new RoadToPort();
        int calls = 0;
        for (int k = 1; k <= 47; k++) {
            x.feed(0x20202020, 0x0a202020, 0x20202020, 0x20202020, 0x20202020);
            calls++;
        }
        x.end(0);
        x.feed(0x63687572, 0x63682061, 0x3b6d616e, 0x20742061, 0x20312030);
        x.feed(0x3b202020, 0x20202020, 0x20202020, 0x20202020, 0x20202020);
        c.is("a LAND", x.land(), 2);
        calls += 4;
        int coin = 0;
        while (calls < 511) {
            switch (calls % 6) {
                case 0: x.image(calls / 6 % 2); break;
                case 1: c.is("days", x.days(1, calls), 1); break;
                case 2: c.is("odds", x.odds(0, 30, calls), 0); break;
                case 3: coin += 2; x.get(0, 2); break;
                case 4: c.is("undo", x.undo() >= 0, true); coin -= 2; break;
                default: coin += 1; x.get(0, 1); break;
            }
            calls++;
        }
        c.is("the 512th call", x.man(0, 2), coin);
        calls++;
        c.is("calls", calls, 512);
    }
}
