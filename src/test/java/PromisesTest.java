/** For each promise: ordinary inputs, the edges that the document names, and wrong inputs. */
public final class PromisesTest {
    private static final Checks c = new Checks();

    /** A church, an inn, a port, a second church behind the inn; two MEN. */
    private static final String SMALL = "church abbey;inn bell;port dover 12 5 2;church cell;"
            + "road abbey bell 4 6;road bell dover 5 3;road bell cell 2 0;"
            + "man tom abbey 4 7;man kim cell 6 0;kin kim;";

    public static void main(String[] args) {
        newObject();
        feedAndEnd();
        landOrdinary();
        landFaults();
        landLimits();
        fault();
        placeAndRoad();
        man();
        now();
        swear();
        order();
        slip();
        enter();
        get();
        daysWalking();
        daysDanger();
        daysFord();
        daysPort();
        daysEnd();
        undo();
        farAndWay();
        plan();
        sent();
        cut();
        worst();
        ship();
        turned();
        there();
        oath();
        odds();
        bookFaults();
        bookJudged();
        bookLived();
        sentenceFaults();
        sentenceSaid();
        images();
        count();
        c.close("PromisesTest");
    }

    private static void newObject() {
        RoadToPort x = new RoadToPort();
        for (int k = 0; k < 5; k++) {
            c.is("1: count(" + k + ") of a new object", x.count(k), 0);
        }
        c.is("1: DAY of a new object", x.now(0), 0);
        for (int k = 1; k < 7; k++) {
            c.is("1: now(" + k + ") of a new object", x.now(k), 0);
        }
        c.is("1: fault() of a new object", x.fault(), 0);
        c.is("1: an empty LAND has DAYS", x.days(3, 1), 3);
        c.is("1: an empty BOOK can be read", x.book(1), -1);
        c.is("1: NONE", RoadToPort.NONE, -1);
        RoadToPort y = new RoadToPort();
        c.is("1: objects share nothing", y.now(0), 0);
    }

    private static void feedAndEnd() {
        RoadToPort x = new RoadToPort();
        c.is("2: feed", x.feed(0x636875, 0, 0, 0, 0), 20);
        c.is("3: end above", x.end(21), false);
        c.is("3: end below 0", x.end(-1), false);
        c.is("3: end leaves the tape if false", x.count(4), 20);
        c.is("3: end at all", x.end(20), true);
        c.is("3: end at 0", x.end(0), true);
        c.is("3: end at 0 again", x.end(0), true);
        c.is("3: the tape is empty", x.count(4), 0);
        for (int k = 1; k <= 47; k++) {
            c.is("2: feed " + k, x.feed(k, k, k, k, k), k * 20);
        }
        c.is("2: feed beyond 940", x.feed(1, 1, 1, 1, 1), -1);
        c.is("2: none came", x.count(4), 940);
        c.is("3: end", x.end(921), true);
        c.is("2: feed beyond 940 by one", x.feed(1, 1, 1, 1, 1), -1);
        c.is("3: end", x.end(920), true);
        c.is("2: feed up to 940", x.feed(1, 1, 1, 1, 1), 940);
        // The highest byte comes first, and bytes of 128 to 255 are such.
        RoadToPort y = Checks.landOf("church a;inn i;inn j;inn k;inn l;inn m;port p 1 1 1;man t a 2 0;road a i 30 0;road i j 30 0;"
                + "road j k 30 0;road k l 30 0;road l m 30 0;road m p 30 0;");
        y.swear(0, 6, 9);
        y.feed(0x8281807e, 0x7e7d7b7b, 0x79787675, 0x74737270, 0x6f6d6d00);
        y.end(19);
        c.is("2: bytes in their order", y.turned(0), 1);
        c.is("2: the first byte is the highest of the first number", y.least(), 130);
    }

    private static void landOrdinary() {
        RoadToPort x = new RoadToPort();
        c.is("4: an empty LAND", x.land(), 0);
        c.is("4: LINES", Checks.land(x, SMALL), 10);
        c.is("4: the tape is empty", x.count(4), 0);
        c.is("4: PLACES", x.count(0), 4);
        c.is("4: blanks", Checks.land(x, " church\na ;\n\n inn  b;"), 2);
        c.is("4: few blanks", Checks.land(x, "church a;port b 0 0 1;road a b 1 0ford;"), -1 - 33);
        c.is("4: few blanks", x.fault(), 1);
        c.is("4: leading zeros", Checks.land(x, "church a;port b 012 099 006;road b a 030 012 ford;"), 3);
        c.is("4: leading zeros", x.place(1, 2), 99);
        c.is("4: in whatever order of LINES", Checks.land(x, "church a;man t a 1 0;inn b;kin t;road b a 1 0;"), 5);
        // A new LAND: DAY 0, all SAFE, no SENTENCE, nothing can be undone; what was told last stays.
        x = Checks.landOf(SMALL);
        x.way(0, 2);
        x.cut(0, 2);
        x.sent();
        x.oath(0);
        Checks.sentence(x, "safe");
        x.swear(0, 2, 9);
        x.plan(0, 0);
        Checks.book(x, "day 1;", 1);
        c.is("4: a LAND with a FAULT", Checks.land(x, "church a;x"), -1 - 9);
        c.is("4: the LAND before stays", x.now(0), 1);
        c.is("4: the SENTENCE stays", x.said(-1), 1);
        c.is("4: the tape is empty", x.count(4), 0);
        c.is("4: a new LAND", Checks.land(x, SMALL), 10);
        c.is("4: DAY 0", x.now(0), 0);
        c.is("4: all SAFE", x.now(1), 3);
        c.is("4: no SENTENCE", x.said(-1), -1);
        c.is("4: nothing can be undone", x.undo(), -1);
        c.is("4: wayAt stays", x.wayAt(1), 1);
        c.is("4: cutting stays", x.cutting(), 1);
        c.is("4: sentTo stays", x.sentTo(1), 2);
        c.is("4: byteAt stays", x.byteAt(0), 't');
        c.is("4: planAt stays", x.planAt(0), 0);
        c.is("4: told stays", x.told(2), 1);
        c.is("4: coin is as told", x.man(0, 2), 7);
    }

    private static void landFault(String text, int kind, int place) {
        RoadToPort x = new RoadToPort();
        c.is("4: land of \"" + text + "\"", Checks.land(x, text), -1 - place);
        c.is("5: fault of \"" + text + "\"", x.fault(), kind);
    }

    private static void landFaults() {
        landFault("x", 1, 0);
        landFault(" ;", 1, 1);
        landFault("church", 1, 6);
        landFault("church ", 1, 7);
        landFault("church a", 1, 8);
        landFault("church a \n", 1, 10);
        landFault("church a b;", 1, 9);
        landFault("church 1;", 1, 7);
        landFault("church abcdefgh;", 1, 7);
        landFault("church a1;", 1, 7);
        landFault("church Abbey;", 1, 7);
        landFault("church a.", 1, 8);
        landFault("church a\t;", 1, 8);
        landFault("church\u00e9 a;", 1, 6);
        landFault("church church;", 1, 7);
        landFault("church day;", 1, 7);
        landFault("church outlaw;", 1, 7);
        landFault("church number;", 1, 7);
        landFault("ford a;", 1, 0);
        landFault("day 1;", 1, 0);
        landFault("church a;church a;", 3, 16);
        landFault("church a;inn a;", 3, 13);
        landFault("church a;man a a 1 1;", 3, 13);
        landFault("church a;man t a 1 1;inn t;", 3, 25);
        landFault("port p 13 0 1;", 2, 7);
        landFault("port p 12 100 1;", 2, 10);
        landFault("port p 12 99 0;", 2, 13);
        landFault("port p 12 99 7;", 2, 13);
        landFault("port p 1000 99 7;", 1, 7);
        landFault("port p 12 99;", 1, 12);
        landFault("church a;inn b;road a b 0 0;", 2, 24);
        landFault("church a;inn b;road a b 31 0;", 2, 24);
        landFault("church a;inn b;road a b 1 13;", 2, 26);
        landFault("church a;inn b;road a b 1 1 fort;", 1, 28);
        landFault("church a;inn b;road a b 1 1 ford ford;", 1, 33);
        landFault("church a;inn b;road a a 1 1;", 3, 22);
        landFault("church a;inn b;road a c 1 1;", 3, 22);
        landFault("church a;inn b;road c a 1 1;", 3, 20);
        landFault("church a;inn b;road a man 1 1;", 1, 22);
        landFault("church a;inn b;road a b 1 1;road b a 1 1;", 3, 35);
        landFault("church a;inn b;road a b 1 1;road a b 1 1;", 3, 35);
        landFault("church a;man t a 1 1;road a t 1 1;", 3, 28);
        landFault("church a;inn b;man t b 1 1;", 3, 21);
        landFault("church a;man t t 1 1;", 3, 15);
        landFault("church a;man t a 0 1;", 2, 17);
        landFault("church a;man t a 21 1;", 2, 17);
        landFault("church a;man t a 20 100;", 2, 20);
        landFault("church a;kin a;", 3, 13);
        landFault("church a;kin t;", 3, 13);
        landFault("church a;man t a 1 1;kin t;kin t;", 3, 31);
        landFault("church a;man t a 1 1;kin kin;", 1, 25);
    }

    private static String places(int n) {
        StringBuilder text = new StringBuilder();
        for (int k = 0; k < n; k++) {
            text.append(k % 2 == 0 ? "church " : "inn ").append((char) ('a' + k)).append(';');
        }
        return text.toString();
    }

    private static String roads(int places, int n) {
        StringBuilder text = new StringBuilder();
        int told = 0;
        for (int a = 0; a < places; a++) {
            for (int b = a + 1; b < places && told < n; b++) {
                text.append("road ").append((char) ('a' + a)).append(' ').append((char) ('a' + b)).append(" 1 1;");
                told++;
            }
        }
        return text.toString();
    }

    private static String men(int n) {
        StringBuilder text = new StringBuilder();
        for (int k = 0; k < n; k++) {
            text.append("man m").append((char) ('a' + k)).append(" a 1 1;");
        }
        return text.toString();
    }

    private static String filled(String text, int length) {
        return text + " ".repeat(length - text.length());
    }

    private static void landLimits() {
        String ten = places(10);
        c.is("4: ten PLACES", Checks.land(new RoadToPort(), ten), 10);
        landFault(ten + "port k 1 1 1;", 4, ten.length());
        landFault(ten + "inn a;", 4, ten.length());
        landFault(ten + ";", 1, ten.length());
        String most = ten + roads(10, 16);
        c.is("4: sixteen roads", Checks.land(new RoadToPort(), most), 26);
        landFault(most + "road i j 1 1;", 4, most.length());
        String all = most + men(6);
        c.is("4: six MEN", Checks.land(new RoadToPort(), all), 32);
        landFault(all + "man z a 1 1;", 4, all.length());
        c.is("4: kin of all", Checks.land(new RoadToPort(), all + "kin ma;kin mb;kin mc;kin md;kin me;kin mf;"), 38);
        // 900 bytes, and what is beyond.
        String two = "church a;inn b;";
        c.is("4: 900 bytes", Checks.land(new RoadToPort(), filled(two, 900)), 2);
        landFault(filled(two, 901), 1, 900);
        landFault(filled(two, 903) + "x", 1, 900);
        landFault(filled("church", 900) + "a;", 1, 900);
        landFault(filled(two, 889) + "church cell;", 1, 900);
        landFault(filled(two, 892) + "church cell;", 1, 900);
        landFault(filled(two, 892) + "church abcdefgh;", 1, 899);
        landFault(filled(two, 893) + "church cell;", 1, 900);
        landFault(filled(two, 897) + "nonsense;", 1, 897);
        landFault(filled(two + "inn", 898) + "  b;", 1, 900);
        landFault(filled(two + "inn", 899) + "b;", 3, 899);
        landFault(filled(two + "inn", 897) + "b ;x", 3, 897);
        landFault(filled(two + "church", 899), 1, 899);
    }

    private static void fault() {
        RoadToPort x = new RoadToPort();
        Checks.land(x, "church a;church a;");
        c.is("5: fault of land()", x.fault(), 3);
        c.is("35: book(2)", x.book(2), -1000);
        c.is("5: a book() of -1000 leaves it", x.fault(), 3);
        Checks.book(x, "day 0;", 0);
        c.is("5: fault of book()", x.fault(), 2);
        Checks.sentence(x, "safe safe");
        c.is("5: fault of sentence()", x.fault(), 1);
        Checks.sentence(x, "safe");
        c.is("5: without one", x.fault(), 0);
        Checks.land(x, "x");
        x.turned(0);
        c.is("5: turned() leaves it", x.fault(), 1);
        Checks.book(x, "day 1;", 0);
        c.is("5: without one", x.fault(), 0);
        Checks.land(x, "x");
        Checks.land(x, "");
        c.is("5: without one", x.fault(), 0);
    }

    private static void placeAndRoad() {
        RoadToPort x = Checks.landOf(SMALL);
        int[][] due = {{0, 0, 0, 0, 1}, {1, 0, 0, 0, 0}, {2, 12, 5, 2, 0}, {0, 0, 0, 0, 2}};
        for (int p = 0; p < 4; p++) {
            for (int what = 0; what < 5; what++) {
                c.is("6: place(" + p + ", " + what + ")", x.place(p, what), due[p][what]);
            }
        }
        c.is("6: no such place", x.place(-1, 0), -1);
        c.is("6: no such place", x.place(4, 0), -1);
        c.is("6: no such what", x.place(0, -1), -1);
        c.is("6: no such what", x.place(0, 5), -1);
        x.swear(0, 2, 9);
        c.is("6: who WALKS and is just there", x.place(0, 4), 1);
        x.days(1, 1);
        c.is("6: who WALKS is gone", x.place(0, 4), 0);
        c.is("6: who WALKS is at the inn", x.place(1, 4), 1);
        x = Checks.landOf(SMALL.replace("5 3;", "5 0;").replace("dover 12", "dover 0"));
        x.swear(0, 2, 9);
        x.days(2, 1);
        c.is("6: on a road, nowhere", x.place(0, 4) + x.place(1, 4) + x.place(2, 4), 0);
        x.days(1, 1);
        c.is("6: who WAITS", x.place(2, 4), 1);
        x.get(0, 5);
        x.slip(0);
        c.is("7: MILES", x.road(1, 2, 0), 5);
        c.is("7: in whatever order", x.road(2, 1, 0), 5);
        c.is("7: DANGER", x.road(0, 1, 1), 6);
        c.is("7: no ford", x.road(0, 1, 2), 0);
        c.is("7: a ford", Checks.landOf("church a;inn b;road a b 2 3 ford;").road(1, 0, 2), 1);
        c.is("7: none", x.road(0, 2, 0), -1);
        c.is("7: alike", x.road(0, 0, 0), -1);
        c.is("7: no such ones", x.road(0, 4, 0), -1);
        c.is("7: no such ones", x.road(-1, 0, 0), -1);
        c.is("7: no such what", x.road(0, 1, 3), -1);
        c.is("7: no such what", x.road(0, 1, -1), -1);
    }

    private static void man(RoadToPort x, int m, int... due) {
        for (int what = 0; what < due.length; what++) {
            c.is("8: man(" + m + ", " + what + ")", x.man(m, what), due[what]);
        }
    }

    private static void man() {
        RoadToPort x = Checks.landOf(SMALL);
        man(x, 0, 0, 4, 7, 0, 0, -1, 0, 0, 0, 0, 4, 0, 0, 0);
        man(x, 1, 0, 6, 0, 1, 0, -1, 3, 0, 0, 0, 6, 0, 0, 0);
        c.throwsNoSuch("8: man(-1, 0)", () -> x.man(-1, 0));
        c.throwsNoSuch("8: man(2, 0)", () -> x.man(2, 0));
        c.throwsNoSuch("8: man(0, -1)", () -> x.man(0, -1));
        c.throwsNoSuch("8: man(0, 14)", () -> x.man(0, 14));
        x.swear(0, 2, 9);
        man(x, 0, 1, 4, 7, 0, 1, 2, 0, 0, 9, 9, 4, 0, 0, 0);
        x.days(1, 1);
        man(x, 0, 1, 4, 7, 0, 1, 2, 0, 4, 9, 8, 4, 0, 0, 4);
        x.order(0, 0);
        x.days(1, 1);
        man(x, 0, 1, 4, 7, 0, 1, 2, 0, 4, 9, 7, 0, 1, 0, 4);
        x.days(1, 1);
        man(x, 0, 4, 4, 7, 0, 1, 2, 0, 4, 9, 0, 0, 2, 0, 4);
    }

    private static void now() {
        RoadToPort x = Checks.landOf("church a;port p 12 0 6;road a p 2 12;man ma a 2 0;man mb a 2 0;man mc a 2 0;"
                + "man md a 2 0;man me a 2 0;man mf a 2 0;");
        for (int m = 1; m < 6; m++) {
            x.swear(m, 1, 2);
        }
        x.order(5, 1);
        x.slip(4);
        x.days(1, 1);
        c.is("9: the DAY", x.now(0), 1);
        c.is("9: SAFE", x.now(1), 1);
        c.is("9: WALKS", x.now(2), 0);
        c.is("9: WAITS", x.now(3), 14);
        c.is("9: OUTLAWS", x.now(5), 16);
        c.is("9: SLAIN", x.now(6), 32);
        x.days(1, 1);
        c.is("9: SAILED", x.now(4), 14);
        x.swear(0, 1, 1);
        c.is("9: WALKS", x.now(2), 1);
        c.is("9: another", x.now(7), -1);
        c.is("9: another", x.now(-1), -1);
    }

    private static void swear() {
        RoadToPort x = Checks.landOf(SMALL + "port far 1 1 1;");
        c.is("10: no such man", x.swear(2, 2, 5), -1);
        c.is("10: no such man", x.swear(-1, 2, 5), -1);
        c.is("10: no such place", x.swear(0, 5, 5), -1);
        c.is("10: another PLACE, an inn", x.swear(0, 1, 5), -1);
        c.is("10: another PLACE, a church", x.swear(0, 3, 5), -1);
        c.is("10: 0 DAYS", x.swear(0, 2, 0), -1);
        c.is("10: 41 DAYS", x.swear(0, 2, 41), -1);
        c.is("10: no road", x.swear(0, 4, 5), 2);
        c.is("10: 40 DAYS", x.swear(0, 2, 40), 0);
        c.is("10: not SAFE", x.swear(0, 2, 5), 1);
        c.is("10: not SAFE, and no road", x.swear(0, 4, 5), 1);
        c.is("10: ENTERS again", x.enter(0), 0);
        c.is("10: a second oath", x.swear(0, 2, 1), 0);
        c.is("10: ENTERS again", x.enter(0), 0);
        c.is("10: no road, and sworn twice", x.swear(0, 4, 5), 2);
        c.is("10: sworn twice", x.swear(0, 2, 5), 3);
        c.is("10: how often he swore", x.man(0, 4), 2);
        // By an oath he goes at his PACE again, and has stayed 0 nights.
        x = Checks.landOf(SMALL);
        x.swear(0, 2, 9);
        x.order(0, 0);
        x.days(1, 1);
        c.is("10: a night", x.man(0, 11), 1);
        x.enter(0);
        c.is("13: no night", x.man(0, 11), 0);
        c.is("13: as he ordered", x.man(0, 10), 0);
        x.swear(0, 2, 9);
        c.is("10: his PACE", x.man(0, 10), 4);
    }

    private static void order() {
        RoadToPort x = Checks.landOf(SMALL);
        c.is("11: does not WALK", x.order(0, 3), 1);
        c.is("11: does not WALK, above his PACE", x.order(0, 5), 1);
        x.swear(0, 2, 9);
        c.is("11: no such man", x.order(2, 3), -1);
        c.is("11: below 0", x.order(0, -1), -1);
        c.is("11: 21", x.order(0, 21), -1);
        c.is("11: 20 is above his PACE", x.order(0, 20), 2);
        c.is("11: above his PACE", x.order(0, 5), 2);
        c.is("11: just so", x.order(0, 4), 3);
        c.is("11: done", x.order(0, 3), 0);
        c.is("11: just so", x.order(0, 3), 3);
        c.is("11: as ordered", x.man(0, 10), 3);
        x.days(1, 1);
        c.is("11: so he goes", x.man(0, 13), 3);
    }

    private static void slip() {
        RoadToPort x = Checks.landOf(SMALL);
        c.is("12: does not WALK", x.slip(0), 1);
        c.is("12: no such one", x.slip(2), -1);
        c.is("12: no such one", x.slip(-1), -1);
        x.swear(0, 2, 9);
        c.is("12: done", x.slip(0), 0);
        c.is("12: an OUTLAW", x.man(0, 0), 4);
        c.is("12: he has no DAYS", x.man(0, 9), 0);
        c.is("12: for good", x.slip(0), 1);
        c.is("12: for good", x.swear(0, 2, 9), 1);
    }

    private static void enter() {
        RoadToPort x = Checks.landOf("church a;church b;port p 0 0 1;road a b 3 0;road b p 3 0;man t a 3 5;");
        c.is("13: does not WALK", x.enter(0), 1);
        c.is("13: no such one", x.enter(1), -1);
        c.is("13: no such one", x.enter(-1), -1);
        x.swear(0, 2, 9);
        x.order(0, 2);
        x.days(1, 1);
        c.is("13: not just at a church", x.enter(0), 2);
        x.order(0, 1);
        x.days(1, 1);
        c.is("13: at the second church", x.enter(0), 0);
        man(x, 0, 0, 3, 5, 0, 1, 2, 1, 0, 0, 0, 1, 0, 0, 3);
        c.is("13: there", x.place(1, 4), 1);
        c.is("13: sworn from there", x.swear(0, 2, 1), 0);
        man(x, 0, 1, 3, 5, 0, 2, 2, 1, 0, 3, 1, 3, 0, 0, 3);
        x.days(1, 1);
        c.is("13: WAITS", x.enter(0), 1);
        RoadToPort y = Checks.landOf(SMALL);
        y.swear(0, 2, 9);
        y.days(1, 1);
        c.is("13: at an inn", y.enter(0), 2);
    }

    private static void get() {
        RoadToPort x = Checks.landOf(SMALL);
        c.is("14: no such one", x.get(2, 1), -1);
        c.is("14: no such one", x.get(-1, 1), -1);
        c.is("14: 0", x.get(0, 0), -1);
        c.is("14: 100", x.get(0, 100), -1);
        c.is("14: done", x.get(0, 99), 0);
        c.is("14: so much more", x.man(0, 2), 106);
        for (int k = 0; k < 10; k++) {
            c.is("14: done", x.get(0, 99), 0);
        }
        c.is("14: 999 at most", x.man(0, 2), 999);
        c.is("14: done all the same", x.get(0, 1), 0);
        x.swear(0, 2, 9);
        c.is("14: who WALKS", x.get(0, 1), 0);
        x.slip(0);
        c.is("14: an OUTLAW", x.get(0, 1), 1);
    }

    private static void daysWalking() {
        RoadToPort x = Checks.landOf("church a;inn b;port p 0 0 1;road a b 3 0;road b p 4 0;man t a 5 5;");
        c.is("15: 0 DAYS", x.days(0, 1), -1);
        c.is("15: 31 DAYS", x.days(31, 1), -1);
        c.is("15: SAFE men stay", x.days(30, 1), 30);
        x.swear(0, 2, 2);
        c.is("15: a DAY", x.days(1, 1), 1);
        man(x, 0, 1, 5, 5, 0, 1, 2, 0, 5, 7, 1, 5, 0, 0, 5);
        x.days(1, 1);
        man(x, 0, 2, 5, 5, 0, 1, 2, 0, 7, 7, 0, 5, 0, 0, 7);
        x.undo();
        x.order(0, 1);
        x.days(1, 1);
        man(x, 0, 4, 5, 5, 0, 1, 2, 0, 6, 7, 0, 1, 0, 0, 6);
        x.undo();
        x.order(0, 0);
        x.days(1, 1);
        man(x, 0, 4, 5, 5, 0, 1, 2, 0, 5, 7, 0, 0, 1, 0, 5);
        // A night, then MILES, then a night: nights are counted anew.
        x = Checks.landOf("church a;port p 0 0 1;road a p 9 0;man t a 5 5;");
        x.swear(0, 1, 9);
        x.order(0, 0);
        x.days(1, 1);
        x.order(0, 1);
        x.days(1, 1);
        c.is("15: 0 nights", x.man(0, 11), 0);
        x.order(0, 0);
        x.days(1, 1);
        c.is("15: a night", x.man(0, 11), 1);
        c.is("15: WALKS", x.man(0, 0), 1);
        x.days(1, 1);
        c.is("15: a second one", x.man(0, 0), 4);
    }

    private static void daysDanger() {
        RoadToPort x = Checks.landOf("church a;inn b;port p 0 0 1;road a b 4 7;road b p 4 12;"
                + "man t a 2 0;man k a 2 0;kin k;");
        x.swear(0, 2, 9);
        x.image(0);
        x.days(1, Checks.seed(Checks.draw(12, 7, 7)));
        c.is("15: the draw is as DANGER", x.man(0, 0), 1);
        x.restore(0);
        x.days(1, Checks.seed(Checks.draw(12, 6, 6)));
        c.is("15: the draw is below DANGER", x.man(0, 0), 5);
        man(x, 0, 5, 2, 0, 0, 1, 2, 0, 2, 8, 0, 2, 0, 0, 2);
        x.restore(0);
        // At the inn there is no draw: two DAYS take one.
        x.days(2, Checks.seed(Checks.draw(12, 8, 11), Checks.draw(12, 0, 0)));
        c.is("15: no draw at a PLACE", x.man(0, 0), 1);
        c.is("15: at the inn", x.place(1, 4), 1);
        x.days(1, 99);
        c.is("15: DANGER 12", x.man(0, 0), 5);
        x = Checks.landOf("church a;inn b;port p 0 0 1;road a b 4 7;road b p 4 12;man t a 2 0;man k a 2 0;kin k;");
        x.swear(1, 2, 9);
        x.image(0);
        x.days(1, Checks.seed(Checks.draw(12, 3, 3)));
        c.is("15: half of 7, cut: 3", x.man(1, 0), 1);
        x.restore(0);
        x.days(1, Checks.seed(Checks.draw(12, 2, 2)));
        c.is("15: below 3", x.man(1, 0), 5);
        // Who stays a night on a road is in danger; who is an OUTLAW by it draws no more, nor is he SLAIN.
        x = Checks.landOf("church a;port p 0 0 1;road a p 9 1;man t a 2 0;man u a 2 0;");
        x.swear(0, 1, 9);
        x.days(1, Checks.seed(Checks.draw(12, 1, 11)));
        x.order(0, 0);
        x.image(0);
        x.days(1, Checks.seed(Checks.draw(12, 0, 0)));
        c.is("15: SLAIN in his sleep", x.man(0, 0), 5);
        x.restore(0);
        x.days(1, Checks.seed(Checks.draw(12, 1, 11)));
        x.swear(1, 1, 9);
        x.days(1, Checks.seed(Checks.draw(12, 0, 0), Checks.draw(12, 5, 5)));
        c.is("15: an OUTLAW", x.man(0, 0), 4);
        c.is("15: the first draw is the next man's", x.man(1, 0), 5);
        // With DANGER 0 there is a draw all the same.
        x = Checks.landOf("church a;port p 0 0 1;road a p 9 0;port q 0 0 1;road a q 9 5;man t a 2 0;man u a 2 0;");
        x.swear(0, 1, 9);
        x.swear(1, 2, 9);
        x.days(1, Checks.seed(Checks.draw(12, 11, 11), Checks.draw(12, 0, 0)));
        c.is("15: the second draw is the second man's", x.now(6), 2);
    }

    private static void daysFord() {
        String text = "church a;inn b;port p 0 0 1;road a b 3 5;road b p 4 0 ford;man t a 3 5;";
        RoadToPort x = Checks.landOf(text);
        x.swear(0, 2, 9);
        x.days(1, Checks.seed(Checks.draw(6, 0, 0), Checks.draw(12, 0, 0)));
        c.is("15: up to the ford's road there is no draw", x.man(0, 7), 3);
        x.image(0);
        x.days(1, Checks.seed(Checks.draw(6, 0, 0)));
        man(x, 0, 1, 3, 5, 0, 1, 2, 0, 3, 7, 7, 3, 0, 0, 3);
        x.restore(0);
        x.days(1, Checks.seed(Checks.draw(6, 1, 5)));
        c.is("15: over the ford", x.man(0, 7), 6);
        x.restore(0);
        x.order(0, 0);
        x.days(1, Checks.seed(Checks.draw(6, 0, 0)));
        c.is("15: who goes none draws none: a night", x.man(0, 11), 1);
        x.order(0, 1);
        x.days(1, Checks.seed(Checks.draw(6, 0, 0)));
        c.is("15: held, none is forgotten", x.man(0, 11), 1);
        c.is("15: held, a DAY less", x.man(0, 9), 6);
        // Held on a road, he is in danger there.
        x = Checks.landOf(text);
        x.swear(0, 2, 9);
        x.order(0, 2);
        x.days(1, Checks.seed(Checks.draw(12, 5, 11)));
        x.image(0);
        x.days(1, Checks.seed(Checks.draw(6, 0, 0), Checks.draw(12, 4, 4)));
        c.is("15: held and SLAIN", x.man(0, 0), 5);
        c.is("15: held", x.man(0, 13), 2);
        x.restore(0);
        x.days(1, Checks.seed(Checks.draw(6, 3, 3), Checks.draw(12, 0, 0)));
        c.is("15: over a part of both", x.man(0, 7), 4);
        c.is("15: no DANGER there", x.man(0, 0), 1);
        x.restore(0);
        x.order(0, 1);
        x.days(1, Checks.seed(Checks.draw(6, 0, 0)));
        c.is("15: just to the ford's road: no draw", x.man(0, 7), 3);
        // Held as his last DAY ends.
        x = Checks.landOf("church a;port p 0 0 1;road a p 3 0 ford;man t a 3 5;");
        x.swear(0, 1, 1);
        x.days(1, Checks.seed(Checks.draw(6, 0, 0)));
        c.is("15: held and an OUTLAW", x.man(0, 0), 4);
    }

    private static void daysPort() {
        RoadToPort x = Checks.landOf("church a;port p 5 9 1;road a p 3 0;man t a 3 8;");
        x.swear(0, 1, 1);
        x.days(1, 1);
        c.is("15: WAITS", x.man(0, 0), 2);
        x.image(0);
        x.days(1, Checks.seed(Checks.draw(12, 5, 5)));
        man(x, 0, 2, 3, 8, 0, 1, 1, 0, 3, 3, 0, 3, 0, 1, 3);
        x.days(1, Checks.seed(Checks.draw(12, 4, 4)));
        c.is("15: a ship, but not its PAY: WADED", x.man(0, 12), 2);
        x.get(0, 1);
        x.days(1, Checks.seed(Checks.draw(12, 4, 4)));
        man(x, 0, 3, 3, 0, 0, 1, 1, 0, 3, 3, 0, 3, 0, 2, 3);
        x.days(1, 1);
        c.is("15: SAILED for good", x.man(0, 12), 2);
        // DAYS one behind the other go on with the seed.
        x.restore(0);
        x.get(0, 99);
        int seed = Checks.seed(Checks.draw(12, 5, 11), Checks.draw(12, 5, 11), Checks.draw(12, 0, 4));
        x.days(2, seed);
        c.is("15: two DAYS", x.man(0, 12), 2);
        x.undo();
        x.days(3, seed);
        c.is("15: three DAYS", x.man(0, 0), 3);
        c.is("15: he paid", x.man(0, 2), 98);
    }

    private static void daysEnd() {
        RoadToPort x = Checks.landOf(SMALL);
        for (int k = 1; k <= 13; k++) {
            c.is("15: DAYS", x.days(30, k), 30);
        }
        c.is("15: DAY 390", x.now(0), 390);
        x.swear(0, 2, 40);
        c.is("31: before all are over", x.there(0), 392);
        c.is("15: up to 400", x.days(30, 4), 10);
        c.is("15: all are over", x.days(30, 4), 0);
        c.is("9: DAY 400", x.now(0), 400);
        c.is("35: fewer DAYS are left", Checks.book(x, "day 1;", 1), 0);
        c.is("36: fewer DAYS are left", x.told(0), 51);
        c.is("16: days() of 0 is no act", x.undo(), 7);
        c.is("16: the DAY before", x.now(0), 390);
        c.is("35: as many as are left", Checks.book(x, "day 10;", 0), -1);
        c.is("35: one more", Checks.book(x, "day 11;", 0), 0);
        c.is("36: one more", x.told(2), 390);
        x.days(8, 1);
        x = Checks.landOf("church a;port p 0 0 1;road a p 9 0;man t a 3 5;");
        for (int k = 1; k <= 14; k++) {
            x.days(k == 14 ? 8 : 30, k);
        }
        x.swear(0, 1, 9);
        c.is("31: no DAY goes then", x.there(0), -1);
        c.is("34: no DAY goes", x.odds(0, 1, 1), 0);
    }

    private static void undo() {
        RoadToPort x = Checks.landOf(SMALL);
        c.is("16: none", x.undo(), -1);
        x.order(0, 1);
        x.slip(0);
        x.enter(0);
        x.get(0, 0);
        x.days(0, 0);
        Checks.book(x, "tom slips;", 1);
        Checks.book(x, "", 1);
        Checks.book(x, "day 1;", 0);
        c.is("16: what was not done", x.undo(), -1);
        x.swear(0, 2, 9);
        x.order(0, 3);
        x.get(0, 5);
        x.days(1, Checks.seed(Checks.draw(12, 6, 11)));
        c.is("35: the third LINE is WRONG", Checks.book(x, "tom gets 1;day 1;tom enters;", 1), 2);
        c.is("16: the DAY", x.now(0), 2);
        c.is("16: a BOOK at once", x.undo(), 4);
        c.is("16: the DAY", x.now(0), 1);
        c.is("16: COIN", x.man(0, 2), 12);
        c.is("16: days()", x.undo(), 3);
        c.is("16: MILES", x.man(0, 13), 0);
        c.is("16: get()", x.undo(), 2);
        c.is("16: COIN", x.man(0, 2), 7);
        c.is("16: order()", x.undo(), 1);
        c.is("16: as ordered", x.man(0, 10), 4);
        c.is("16: swear()", x.undo(), 0);
        c.is("16: SAFE", x.man(0, 0), 0);
        c.is("16: never sworn", x.man(0, 5), -1);
        c.is("16: none", x.undo(), -1);
        for (int k = 0; k < 10; k++) {
            x.get(0, 1);
        }
        for (int k = 7; k >= 0; k--) {
            c.is("16: eight at most", x.undo(), k);
        }
        c.is("16: eight at most", x.undo(), -1);
        c.is("16: two stay", x.man(0, 2), 9);
        x.swear(0, 2, 9);
        x.slip(0);
        c.is("16: slip()", x.undo(), 1);
        c.is("16: WALKS", x.man(0, 0), 1);
        x.enter(0);
        c.is("16: enter()", x.undo(), 1);
        c.is("16: WALKS", x.man(0, 0), 1);
    }

    private static void farAndWay() {
        // From a to e in 4 MILES by b or c or both; by d in 5.
        RoadToPort x = Checks.landOf("church a;inn c;inn b;inn d;port e 1 1 1;port f 1 1 1;"
                + "road a b 2 1;road b e 2 1;road a c 1 1;road c b 1 1;road a d 2 1;road d e 3 1;road a e 5 1;");
        c.is("17: FAR", x.far(0, 4), 4);
        c.is("17: back", x.far(4, 0), 4);
        c.is("17: alike", x.far(3, 3), 0);
        c.is("17: no road", x.far(0, 5), -1);
        c.is("17: no such ones", x.far(0, 6), -1);
        c.is("17: no such ones", x.far(-1, 0), -1);
        c.is("19: ahead of any", x.wayAt(0), -1);
        c.is("18: the least at the first place", x.way(0, 4), 4);
        c.is("19: the first", x.wayAt(0), 0);
        c.is("19: the least", x.wayAt(1), 1);
        c.is("19: then", x.wayAt(2), 2);
        c.is("19: the last", x.wayAt(3), 4);
        c.is("19: none such", x.wayAt(4), -1);
        c.is("19: none such", x.wayAt(-1), -1);
        c.is("18: no road", x.way(0, 5), -1);
        c.is("18: no such ones", x.way(0, 6), -1);
        c.is("18: no such ones", x.way(6, 0), -1);
        c.is("18: no such ones", x.way(-1, 0), -1);
        c.is("19: that was not NONE", x.wayAt(3), 4);
        c.is("18: back", x.way(4, 0), 3);
        c.is("19: another one", x.wayAt(1), 2);
        c.is("19: back", x.wayAt(2), 0);
        c.is("18: alike", x.way(5, 5), 1);
        c.is("19: alike", x.wayAt(0), 5);
        c.is("19: alike", x.wayAt(1), -1);
    }

    private static void plan(RoadToPort x, int m, long above, long below, int... miles) {
        c.is("20: above", x.plan(m, 0), above);
        c.is("20: below", x.plan(m, 1), below);
        for (int k = 0; k < 14; k++) {
            c.is("21: planAt(" + k + ")", x.planAt(k), k < miles.length ? miles[k] : -1);
        }
        c.is("21: none such", x.planAt(-1), -1);
    }

    private static void plan() {
        RoadToPort x = Checks.landOf(SMALL + "port long 1 1 1;road dover long 9 12 ford;");
        c.is("21: ahead of any", x.planAt(0), -1);
        c.throwsNoSuch("20: does not WALK", () -> x.plan(0, 0));
        x.swear(0, 2, 13);
        c.throwsNoSuch("20: 13 DAYS", () -> x.plan(0, 0));
        c.throwsNoSuch("20: no such man", () -> x.plan(2, 0));
        c.throwsNoSuch("20: no such man", () -> x.plan(-1, 0));
        x.undo();
        x.swear(0, 2, 3);
        c.throwsNoSuch("20: no such what", () -> x.plan(0, 2));
        c.throwsNoSuch("20: no such what", () -> x.plan(0, -1));
        c.is("21: a call that throws changes nothing", x.planAt(0), -1);
        plan(x, 0, 3, 4, 4, 1, 4);
        x.undo();
        x.swear(0, 2, 12);
        // He may stay at the church for a DAY, and at the inn; a night more on the road is one danger more.
        plan(x, 0, 3, 4, 0, 4, 0, 1, 4);
        x.order(0, 0);
        x.days(1, 1);
        plan(x, 0, 3, 4, 4, 0, 1, 4);
        c.is("21: not by a plan that throws", x.planAt(3), 4);
        c.throwsNoSuch("20: throws", () -> x.plan(1, 0));
        c.is("21: stays", x.planAt(3), 4);
        x.restore(0);
        // Kin: DANGER is half. Far: not in time, all plans are alike.
        RoadToPort y = Checks.landOf("church a;port p 1 1 1;road a p 6 7;man t a 3 1;kin t;man u a 1 1;");
        y.swear(0, 1, 2);
        plan(y, 0, 3, 4, 3, 3);
        y.swear(1, 1, 4);
        plan(y, 1, 0, 1, 0, 1, 0, 1);
        y.order(1, 0);
        y.days(1, Checks.seed(Checks.draw(12, 11, 11)));
        plan(y, 1, 0, 1, 1, 0, 1);
        // One mile a DAY: 5 nights of (12 - 7) / 12.
        RoadToPort z = Checks.landOf("church a;port p 1 1 1;road a p 12 7 ford;man t a 1 1;");
        z.swear(0, 1, 12);
        plan(z, 0, 48828125L, 743008370688L, 1, 1, 1, 1, 1, 1, 1, 1, 1, 1, 1, 1);
        z = Checks.landOf("church a;port p 1 1 1;road a p 2 12;man t a 1 1;");
        z.swear(0, 1, 12);
        plan(z, 0, 0, 1, 0, 1, 0, 1);
        z = Checks.landOf("church a;port p 1 1 1;road a p 2 12;man t a 2 1;");
        z.swear(0, 1, 1);
        plan(z, 0, 1, 1, 2);
    }

    private static void sent() {
        RoadToPort x = Checks.landOf("church a;church b;port p 1 1 1;port q 1 1 2;port r 1 1 1;"
                + "road a p 2 0;road a q 4 0;road b p 1 0;road b q 3 0;man s a 5 0;man t b 5 0;man u a 5 0;");
        c.is("23: ahead of any", x.sentTo(0), -1);
        // 2 + 3 + 4, 4 + 1 + 4, 4 + 3 + 2: the first of like ones.
        c.is("22: MILES in all", x.sent(), 9);
        c.is("23: the least port first", x.sentTo(0), 2);
        c.is("23: then", x.sentTo(1), 3);
        c.is("23: then", x.sentTo(2), 3);
        c.is("23: no such one", x.sentTo(3), -1);
        c.is("23: no such one", x.sentTo(-1), -1);
        x.swear(0, 2, 9);
        c.is("22: those that are SAFE alone", x.sent(), 5);
        c.is("23: none", x.sentTo(0), -1);
        c.is("23: the least port first", x.sentTo(1), 2);
        c.is("23: then", x.sentTo(2), 3);
        RoadToPort y = Checks.landOf("church a;port p 1 1 1;road a p 2 0;man s a 5 0;man t a 5 0;");
        y.swear(0, 1, 9);
        c.is("22: one", y.sent(), 2);
        y.undo();
        c.is("22: it can't be", y.sent(), -1);
        c.is("23: by the latest that was not NONE", y.sentTo(1), 1);
        y.image(0);
        c.is("4: an empty LAND", y.land(), 0);
        c.is("23: stays over a LAND without such a MAN", y.sentTo(1), 1);
        c.is("23: nothing was told to him", y.sentTo(0), -1);
        c.is("23: no such one", y.sentTo(6), -1);
        y.restore(0);
        c.is("23: stays over a LAND brought back", y.sentTo(1), 1);
        Checks.land(y, "church a;port p 1 1 1;man s a 5 0;man t a 5 0;");
        c.is("22: it can't be", y.sent(), -1);
        c.is("23: stays as no other was told", y.sentTo(1), 1);
        y.land();
        c.is("22: nobody", y.sent(), 0);
        c.is("23: the latest told him nothing", y.sentTo(1), -1);
        c.is("22: no road", Checks.landOf("church a;port p 1 1 1;man s a 5 0;").sent(), -1);
        c.is("22: no MEN", Checks.landOf("church a;").sent(), 0);
    }

    private static void cut() {
        RoadToPort x = Checks.landOf("church a;inn b;inn c;port d 1 1 1;port e 1 1 1;"
                + "road a b 1 0;road b d 1 0;road a c 1 0;road c d 1 0;road b c 1 0;");
        c.is("25: ahead of any", x.cutting(), -1);
        c.is("24: alike", x.cut(0, 0), -1);
        c.is("24: no such ones", x.cut(0, 5), -1);
        c.is("24: no such ones", x.cut(-1, 0), -1);
        c.is("25: ahead of any", x.cutting(), -1);
        c.is("24: two", x.cut(0, 3), 2);
        c.is("25: the least as bits", x.cutting(), 5);
        c.is("24: back", x.cut(3, 0), 2);
        c.is("25: the same", x.cutting(), 5);
        c.is("24: from the middle", x.cut(1, 2), 3);
        c.is("25: the least as bits", x.cutting(), 1 + 2 + 16);
        c.is("24: none already", x.cut(0, 4), 0);
        c.is("25: none", x.cutting(), 0);
        String six = "church a;inn b;inn c;inn d;inn e;inn f;inn g;";
        RoadToPort y = Checks.landOf(six + "road a b 1 0;road a c 1 0;road a d 1 0;road a e 1 0;road a g 1 0;"
                + "road f b 1 0;road f c 1 0;road f d 1 0;road f e 1 0;");
        c.is("24: four", y.cut(5, 0), 4);
        c.is("25: four", y.cutting(), 15);
        RoadToPort z = Checks.landOf(six + "road a b 1 0;road a c 1 0;road a d 1 0;road a e 1 0;road a g 1 0;"
                + "road f b 1 0;road f c 1 0;road f d 1 0;road f e 1 0;road f g 1 0;");
        z.cut(0, 1);
        c.is("24: more than 4", z.cut(0, 5), -1);
        c.is("25: by the latest that was not NONE", z.cutting(), 33);
    }

    private static void worst() {
        RoadToPort x = Checks.landOf("church a;inn b;inn c;port d 1 1 1;port e 1 1 1;"
                + "road c d 1 4;road b c 1 4;road a b 1 3;road a d 9 12;");
        c.is("26: of like ones the first along it", x.worst(0, 3), 1);
        c.is("26: back", x.worst(3, 0), 0);
        c.is("26: one road", x.worst(0, 1), 2);
        c.is("26: no road", x.worst(0, 4), -1);
        c.is("26: alike", x.worst(0, 0), -1);
        c.is("26: no such ones", x.worst(0, 5), -1);
        c.is("26: no such ones", x.worst(-1, 0), -1);
        c.is("26: no such ones", x.worst(5, 0), -1);
        c.is("26: DANGER 0", Checks.landOf("church a;inn b;road a b 1 0;").worst(1, 0), 0);
    }

    private static void ship() {
        RoadToPort x = Checks.landOf("church a;port p 4 1 1;port q 0 1 1;port r 12 1 1;port s 1 1 1;");
        c.is("27: above", x.ship(1, 3, 0), 19);
        c.is("27: below", x.ship(1, 3, 1), 27);
        c.is("27: never", x.ship(2, 8, 0), 0);
        c.is("27: never", x.ship(2, 8, 1), 1);
        c.is("27: surely", x.ship(3, 8, 0), 1);
        c.is("27: surely", x.ship(3, 8, 1), 1);
        c.is("27: in 0 DAYS", x.ship(3, 0, 0), 0);
        c.is("27: in 0 DAYS", x.ship(3, 0, 1), 1);
        c.is("27: in 8 DAYS", x.ship(4, 8, 0), 429981696 - 214358881);
        c.is("27: in 8 DAYS", x.ship(4, 8, 1), 429981696);
        c.throwsNoSuch("27: 9 DAYS", () -> x.ship(1, 9, 0));
        c.throwsNoSuch("27: -1 DAYS", () -> x.ship(1, -1, 0));
        c.throwsNoSuch("27: no such what", () -> x.ship(1, 1, 2));
        c.throwsNoSuch("27: no such what", () -> x.ship(1, 1, -1));
        c.throwsNoSuch("27: another PLACE", () -> x.ship(0, 1, 0));
        c.throwsNoSuch("27: no such place", () -> x.ship(5, 1, 0));
        c.throwsNoSuch("27: no such place", () -> x.ship(-1, 1, 0));
    }

    private static int turned(RoadToPort x, int m, int... seen) {
        StringBuilder text = new StringBuilder();
        for (int at : seen) {
            text.append((char) at);
        }
        Checks.tell(x, text.toString());
        return x.turned(m);
    }

    private static void turned() {
        RoadToPort x = Checks.landOf("church a;inn b;port p 1 1 1;road a b 8 0;road b p 4 0;man t a 4 1;man u a 4 1;");
        c.is("28: does not WALK", turned(x, 0, 1, 1), -1);
        c.is("28: the tape is empty", x.count(4), 0);
        x.swear(0, 2, 9);
        c.is("29: ahead of any", x.least(), -1);
        c.is("30: ahead of any", x.greatest(), -1);
        c.is("28: no such one", turned(x, 2, 1, 1), -1);
        c.is("28: no such one", turned(x, -1, 1, 1), -1);
        c.is("28: the tape is empty", x.count(4), 0);
        c.is("28: another one does not WALK", turned(x, 1, 1, 1), -1);
        c.is("28: a byte", turned(x, 0, 1), -1);
        c.is("28: no byte", turned(x, 0), -1);
        c.is("28: above the MILES", turned(x, 0, 12, 13), -1);
        c.is("28: 21 bytes", turned(x, 0, new int[21]), -1);
        c.is("28: none", turned(x, 0, 1, 6), 0);
        c.is("29: ahead of any", x.least(), -1);
        c.is("28: 20 bytes", turned(x, 0, new int[20]), 3);
        c.is("29: least", x.least(), 0);
        c.is("30: greatest", x.greatest(), 2);
        c.is("28: to the port and back", turned(x, 0, 12, 12), 1);
        c.is("29: least", x.least(), 12);
        c.is("30: greatest", x.greatest(), 12);
        c.is("28: on and back", turned(x, 0, 2, 3, 1), 2);
        c.is("29: least", x.least(), 3);
        c.is("30: greatest", x.greatest(), 4);
        c.is("28: on, back, on", turned(x, 0, 2, 1, 2), 0);
        c.is("28: too far in a DAY", turned(x, 0, 0, 5, 5), 0);
        c.is("28: too far back in a DAY", turned(x, 0, 6, 6, 1), 0);
        c.is("29: by the latest above 0", x.least(), 3);
        c.is("28: staying, and at his PACE", turned(x, 0, 1, 1, 5, 9, 9, 5, 5, 1), 3);
        c.is("29: least", x.least(), 9);
        c.is("30: greatest", x.greatest(), 11);
        longest();
        // On the first DAY 6 to 9, on the second 9 to 9, or on the third 9 to 5: 9 to 11.
        c.is("28: on any of the DAYS", turned(x, 0, 6, 9, 9, 5), 3);
        c.is("30: greatest", x.greatest(), 11);
    }

    /** Nine roads of 30 MILES. */
    private static void longest() {
        String text = "church a;inn b;inn c;inn d;inn e;inn f;inn g;inn h;inn i;port j 1 1 1;man t a 20 0;";
        for (char p = 'a'; p < 'j'; p++) {
            text += "road " + p + " " + (char) (p + 1) + " 30 0;";
        }
        RoadToPort x = Checks.landOf(text);
        c.is("17: the longest WAY", x.far(0, 9), 270);
        c.is("18: the longest WAY", x.way(9, 0), 10);
        c.is("19: the longest WAY", x.wayAt(9), 0);
        c.is("26: the longest WAY", x.worst(9, 0), 8);
        x.swear(0, 9, 40);
        c.is("28: the longest WAY", turned(x, 0, 250, 255), 8);
        c.is("30: the longest WAY", x.greatest(), 262);
        x.days(2, 1);
        x.undo();
        x.undo();
        x.swear(0, 9, 12);
        plan(x, 0, 0, 1, 0, 1, 0, 1, 0, 1, 0, 1, 0, 1, 0, 1);
        x.days(12, 1);
        c.is("15: not in time", x.man(0, 0), 4);
        c.is("15: on the longest WAY", x.man(0, 13), 240);
        x.undo();
        x.undo();
        x.swear(0, 9, 14);
        x.days(13, 1);
        c.is("15: on the longest WAY", x.man(0, 7), 260);
        plan(x, 0, 1, 1, 10);
        x.days(1, 1);
        c.is("15: at its end", x.place(9, 4), 1);
    }

    private static void there() {
        RoadToPort x = Checks.landOf(SMALL);
        c.is("31: does not WALK", x.there(0), -1);
        c.is("31: no such one", x.there(2), -1);
        c.is("31: no such one", x.there(-1), -1);
        x.days(5, 1);
        x.swear(0, 2, 3);
        c.is("31: THERE", x.there(0), 7);
        x.order(0, 3);
        c.is("31: THERE in just as many", x.there(0), 7);
        x.order(0, 2);
        c.is("31: not in time", x.there(0), -1);
        x.order(0, 0);
        c.is("31: he would be an OUTLAW", x.there(0), -1);
        RoadToPort z = Checks.landOf("church a;port p 1 1 1;road a p 9 0;man t a 6 1;");
        z.swear(0, 1, 9);
        z.days(1, 1);
        c.is("31: the MILES that are left", z.there(0), 1);
        z.order(0, 1);
        c.is("31: a MILE a DAY", z.there(0), 3);
        RoadToPort y = Checks.landOf("church a;port p 1 1 1;road a p 4 12 ford;man t a 2 1;");
        y.swear(0, 1, 2);
        c.is("31: no fords, nobody slays", y.there(0), 1);
        y.days(1, Checks.seed(Checks.draw(6, 0, 0)));
        c.is("31: held: not in time", y.there(0), -1);
    }

    private static void oathIs(RoadToPort x, int m, String due) {
        String got = Checks.oath(x, m);
        c.is("32: \"" + got + "\" is \"" + due + "\"", got.equals(due), true);
        c.is("33: byte behind it", x.byteAt(due.length()), -1);
    }

    private static void oath() {
        RoadToPort x = Checks.landOf("church zzzzzzz;port aaaaaaa 12 0 1;road zzzzzzz aaaaaaa 2 12;"
                + "man mnopqrs zzzzzzz 2 1;man t zzzzzzz 1 1;man v zzzzzzz 1 1;");
        c.is("33: ahead of any", x.byteAt(0), -1);
        oathIs(x, 0, "mnopqrs in zzzzzzz");
        c.is("32: no such one", x.oath(3), -1);
        c.is("32: no such one", x.oath(-1), -1);
        c.is("33: the latest stays", x.byteAt(0), 'm');
        c.is("33: none such", x.byteAt(-1), -1);
        x.swear(0, 1, 40);
        oathIs(x, 0, "mnopqrs to aaaaaaa 40");
        x.swear(1, 1, 9);
        oathIs(x, 1, "t to aaaaaaa 9");
        x.swear(2, 1, 10);
        oathIs(x, 2, "v to aaaaaaa 10");
        x.slip(2);
        x.days(1, 1);
        oathIs(x, 0, "mnopqrs waits");
        oathIs(x, 1, "t slain");
        oathIs(x, 2, "v outlaw");
        x.days(1, 1);
        oathIs(x, 0, "mnopqrs sailed");
    }

    private static void odds() {
        RoadToPort x = Checks.landOf("church a;port p 12 0 1;port q 0 0 1;road a p 30 0;road a q 1 0;road q p 30 6;"
                + "man s a 1 0;man t a 20 0;man u a 1 0;");
        c.is("34: SAFE", x.odds(0, 30, 1), 0);
        x.swear(0, 1, 40);
        x.swear(1, 1, 40);
        x.swear(2, 2, 40);
        c.is("34: there on the last DAY", x.odds(0, 30, 1), 0);
        c.is("34: all", x.odds(1, 30, Integer.MAX_VALUE), 30);
        c.is("34: no ship", x.odds(2, 30, 1), 0);
        c.is("34: 0 seeds", x.odds(1, 0, 1), -1);
        c.is("34: 31 seeds", x.odds(1, 31, 1), -1);
        c.is("34: no such man", x.odds(3, 1, 1), -1);
        c.is("34: no such man", x.odds(-1, 1, 1), -1);
        c.is("34: all stays", x.now(0), 0);
        c.is("34: nothing more to undo", x.undo(), 2);
        x.days(1, 1);
        c.is("34: a DAY ahead", x.odds(0, 3, 1), 3);
        x.days(3, 1);
        c.is("34: SAILED already", x.odds(1, 7, 1), 7);
        // By seeds x, x and 1, ..: as many as sail when the DAYS go by.
        RoadToPort y = Checks.landOf("church a;port p 3 0 2;road a p 9 4;man s a 2 0;man t a 4 0;kin s;");
        y.swear(0, 1, 9);
        y.swear(1, 1, 9);
        y.image(0);
        int sailed = 0;
        for (int k = 0; k < 30; k++) {
            y.restore(0);
            y.days(30, 1000 + k);
            sailed += y.man(1, 0) == 3 ? 1 : 0;
        }
        y.restore(0);
        c.is("34: by the DAYS", y.odds(1, 30, 1000), sailed);
        c.is("34: some, not all", sailed > 0 && sailed < 30, true);
    }

    private static void bookFault(String text, int kind, int place) {
        RoadToPort x = Checks.landOf(SMALL);
        c.is("35: book of \"" + text + "\"", Checks.book(x, text, 1), -2 - place);
        c.is("5: fault of \"" + text + "\"", x.fault(), kind);
        c.is("35: nothing is lived", x.now(0) + x.man(0, 2), 7);
        c.is("36: ahead of any", x.told(0), -1);
        c.is("35: the tape is empty", x.count(4), 0);
    }

    private static void bookFaults() {
        bookFault("day 1", 1, 5);
        bookFault("day 0;", 2, 4);
        bookFault("day 31;", 2, 4);
        bookFault("day;", 1, 3);
        bookFault("days 1;", 1, 0);
        bookFault(";", 1, 0);
        bookFault("1;", 1, 0);
        bookFault("church;", 1, 0);
        bookFault("ned slips;", 3, 0);
        bookFault("abbey slips;", 3, 0);
        bookFault("tom walks;", 1, 4);
        bookFault("tom day 1;", 1, 4);
        bookFault("tom kim;", 1, 4);
        bookFault("tom swears dover 0;", 2, 17);
        bookFault("tom swears dover 41;", 2, 17);
        bookFault("tom swears dover;", 1, 16);
        bookFault("tom swears 5;", 1, 11);
        bookFault("tom swears bell 5;", 3, 11);
        bookFault("tom swears kim 5;", 3, 11);
        bookFault("tom swears rye 5;", 3, 11);
        bookFault("tom swears to dover 5;", 1, 11);
        bookFault("tom orders 21;", 2, 11);
        bookFault("tom gets 0;", 2, 9);
        bookFault("tom gets 100;", 2, 9);
        bookFault("day 1;tom slips 1;", 1, 16);
        bookFault("tom enters", 1, 10);
        String forty = "day 1;".repeat(40);
        c.is("35: 40 LINES", Checks.book(Checks.landOf(SMALL), forty, 1), -1);
        bookFault(forty + "day 1;", 4, 240);
        bookFault(forty + " tom slips;", 4, 241);
        bookFault(forty + "tom", 4, 240);
        bookFault(forty + "ned slips;", 3, 240);
        bookFault(forty + "inn", 1, 240);
        bookFault(forty + "1", 1, 240);
        c.is("35: 400 bytes", Checks.book(Checks.landOf(SMALL), filled("day 1;", 400), 1), -1);
        bookFault(filled("day 1;", 401), 1, 400);
        bookFault(filled("day 1;", 396) + "day 31;", 1, 400);
        bookFault(filled("day 1;", 395) + "day 31;", 2, 399);
    }

    private static void told(RoadToPort x, int... due) {
        for (int what = 0; what < 4; what++) {
            c.is("36: told(" + what + ")", x.told(what), due[what]);
        }
        c.is("36: another what", x.told(4), -1);
        c.is("36: another what", x.told(-1), -1);
    }

    private static void bookWrong(String text, int line, int... due) {
        RoadToPort x = Checks.landOf(SMALL + "port far 1 1 1;");
        c.is("35: book of \"" + text + "\"", Checks.book(x, text, 0), line);
        told(x, due);
        c.is("35: all stays", x.now(0) + x.now(1) + x.man(0, 2), 0 + 3 + 7);
        c.is("35: nothing can be undone", x.undo(), -1);
    }

    private static void bookJudged() {
        bookWrong("", -1, 0, 0, 0, 0);
        bookWrong("tom swears dover 9;tom swears dover 9;", 1, 1, 1, 0, 0);
        bookWrong("tom swears far 9;", 0, 2, 0, 0, 0);
        bookWrong("tom swears dover 9;tom enters;tom swears dover 9;tom enters;tom swears dover 9;", 4, 3, 4, 0, 0);
        bookWrong("day 2;tom orders 1;", 1, 11, 1, 2, 0);
        bookWrong("tom swears dover 9;tom orders 5;", 1, 12, 1, 0, 0);
        bookWrong("tom swears dover 9;tom orders 4;", 1, 13, 1, 0, 0);
        bookWrong("tom swears dover 40;tom orders 0;day 1;tom orders 0;", 3, 13, 3, 1, 0);
        bookWrong("tom slips;", 0, 21, 0, 0, 0);
        bookWrong("tom enters;", 0, 31, 0, 0, 0);
        bookWrong("tom swears dover 9;day 1;tom enters;", 2, 32, 2, 1, 0);
        bookWrong("tom swears dover 9;tom slips;tom gets 1;", 2, 41, 2, 0, 0);
        bookWrong("tom swears dover 9;tom orders 3;tom gets 1;day 30;", -1, 0, 4, 30, 1);
        bookWrong("day 30;".repeat(14), 13, 51, 13, 390, 0);
        bookWrong("day 30;".repeat(13) + "day 10;tom gets 1;day 1;", 15, 51, 15, 400, 0);
        bookWrong("kim swears dover 9;kim gets 5;day 1;kim orders 1;day 1;", -1, 0, 5, 2, 0);
        RoadToPort x = Checks.landOf(SMALL);
        Checks.tell(x, "tom slips;");
        c.is("35: another lives", x.book(2), -1000);
        c.is("35: another lives", x.book(-1), -1000);
        c.is("35: the tape stays", x.count(4), 10);
        c.is("36: ahead of any", x.told(0), -1);
        c.is("35: it is read then", x.book(0), 0);
        Checks.book(x, "x", 0);
        c.is("36: a FAULT leaves it", x.told(0), 21);
    }

    private static void bookLived() {
        RoadToPort x = Checks.landOf("church a;port p 12 5 1;road a p 4 0;man t a 4 5;man u a 4 0;");
        c.is("35: lived", Checks.book(x, "t swears p 1;u swears p 2;day 2;u gets 5;t slips;u slips;", 1), 4);
        told(x, 21, 4, 2, 1);
        man(x, 0, 3, 4, 0, 0, 1, 1, 0, 4, 4, 0, 4, 0, 0, 4);
        man(x, 1, 2, 4, 5, 0, 1, 1, 0, 4, 4, 0, 4, 0, 1, 4);
        c.is("16: a BOOK at once", x.undo(), 0);
        c.is("16: SAFE", x.now(1), 3);
        // 'day' N goes with the seed N.
        RoadToPort y = Checks.landOf("church a;port p 3 0 2;road a p 9 4 ford;man s a 2 0;man t a 4 0;");
        RoadToPort z = Checks.landOf("church a;port p 3 0 2;road a p 9 4 ford;man s a 2 0;man t a 4 0;");
        Checks.book(y, "s swears p 9;t swears p 9;day 7;day 3;", 1);
        z.swear(0, 1, 9);
        z.swear(1, 1, 9);
        z.days(7, 7);
        z.days(3, 3);
        for (int m = 0; m < 2; m++) {
            for (int what = 0; what < 14; what++) {
                c.is("35: as the calls", y.man(m, what), z.man(m, what));
            }
        }
        c.is("35: no LINE is lived", Checks.book(y, "s slips;s swears p 9;", 1), 0);
        c.is("16: it is no act", y.undo(), 0);
    }

    private static void sentenceFault(String text, int kind, int place) {
        RoadToPort x = Checks.landOf(SMALL);
        Checks.sentence(x, "kin");
        c.is("37: sentence of \"" + text + "\"", Checks.sentence(x, text), -1 - place);
        c.is("5: fault of \"" + text + "\"", x.fault(), kind);
        c.is("37: the SENTENCE before stays", x.said(0), 1);
        c.is("37: the tape is empty", x.count(4), 0);
    }

    private static void sentenceFaults() {
        sentenceFault("", 1, 0);
        sentenceFault("  ", 1, 2);
        sentenceFault("safe;", 1, 4);
        sentenceFault("safe kin", 1, 5);
        sentenceFault("safe or", 1, 7);
        sentenceFault("safe and or kin", 1, 9);
        sentenceFault("or", 1, 0);
        sentenceFault("(safe", 1, 5);
        sentenceFault("safe)", 1, 4);
        sentenceFault("()", 1, 1);
        sentenceFault("not", 1, 3);
        sentenceFault("tom", 1, 0);
        sentenceFault("day", 1, 0);
        sentenceFault("to", 1, 2);
        sentenceFault("to rye", 3, 3);
        sentenceFault("to tom", 3, 3);
        sentenceFault("at safe", 1, 3);
        sentenceFault("at 5", 1, 3);
        sentenceFault("coin 5", 1, 5);
        sentenceFault("coin <", 1, 6);
        sentenceFault("coin < > 5", 1, 7);
        sentenceFault("coin <5a", 1, 6);
        sentenceFault("coin <1000", 1, 6);
        sentenceFault("safe.", 1, 4);
        String twenty = "kin" + " or kin".repeat(19);
        c.is("37: 20 ONES", Checks.sentence(Checks.landOf(SMALL), twenty), 20);
        sentenceFault(twenty + " and safe", 4, twenty.length() + 5);
        sentenceFault(twenty + " and or", 1, twenty.length() + 5);
        sentenceFault(twenty + " and tom", 1, twenty.length() + 5);
        c.is("37: 8 within one another", Checks.sentence(Checks.landOf(SMALL), "not not not not not not not kin"), 8);
        sentenceFault("not not not not not not not not kin", 4, 32);
        c.is("37: 8 within one another", Checks.sentence(Checks.landOf(SMALL), "(((((((kin or safe)))))))"), 9);
        sentenceFault("((((((((kin))))))))", 4, 8);
        sentenceFault("(((((((((", 4, 8);
        sentenceFault("not(not(not(not(not", 4, 16);
        c.is("37: not within", Checks.sentence(Checks.landOf(SMALL), "not not not not not not not kin and not kin"), 10);
        c.is("37: 200 bytes", Checks.sentence(Checks.landOf(SMALL), filled("kin", 200)), 1);
        sentenceFault(filled("kin", 201), 1, 200);
        sentenceFault(filled("kin or", 199) + "safe", 1, 200);
        sentenceFault(filled("kin or", 199) + "sage", 1, 199);
        sentenceFault(filled("kin or", 200) + "safe", 1, 200);
    }

    private static void said(RoadToPort x, String text, int ones, int... due) {
        c.is("37: ONES of \"" + text + "\"", Checks.sentence(x, text), ones);
        c.is("38: how many of \"" + text + "\"", x.said(-1), due.length);
        for (int k = 0; k < 7; k++) {
            c.is("38: said(" + k + ") of \"" + text + "\"", x.said(k), k < due.length ? due[k] : -1);
        }
    }

    private static void sentenceSaid() {
        RoadToPort x = Checks.landOf("church a;port p 12 0 6;inn i;road a i 1 0;road i p 1 12;man ma a 2 9;man mb a 2 8;"
                + "man mc a 2 7;man md a 2 6;man me a 1 5;man mf a 2 4;kin mb;kin mf;port q 0 0 1;road a q 9 0;");
        c.is("38: no SENTENCE", x.said(-1), -1);
        c.is("38: no SENTENCE", x.said(0), -1);
        // 0 stays SAFE, 1 SAILED, 2 WAITS, 3 is an OUTLAW, 4 WALKS and is at the inn, 5 WALKS to q.
        x.swear(1, 1, 9);
        x.days(1, 1);
        x.swear(2, 1, 9);
        x.swear(3, 1, 9);
        x.swear(4, 1, 9);
        x.swear(5, 3, 9);
        x.slip(3);
        x.days(1, 1);
        said(x, "safe", 1, 0);
        said(x, "sailed", 1, 1);
        said(x, "waits", 1, 2);
        said(x, "outlaw", 1, 3);
        said(x, "walks", 1, 4, 5);
        said(x, "slain", 1);
        said(x, "kin", 1, 1, 5);
        said(x, "not kin", 2, 0, 2, 3, 4);
        said(x, "not not kin", 3, 1, 5);
        said(x, "to p", 1, 1, 2, 3, 4);
        said(x, "to q", 1, 5);
        said(x, "to a", 1);
        said(x, "at a", 1, 0);
        said(x, "at p", 1, 2);
        said(x, "at i", 1, 4);
        said(x, "at q", 1);
        said(x, "coin>7", 1, 0, 1);
        said(x, "coin = 7", 1, 2);
        said(x, "coin<7", 1, 3, 4, 5);
        said(x, "days=8", 1, 4, 5);
        said(x, "days=0", 1, 0, 1, 2, 3);
        said(x, "miles=2", 1, 1, 2, 5);
        said(x, "miles > 0", 1, 1, 2, 4, 5);
        said(x, "number<2", 1, 0, 1);
        said(x, "number > 999", 1);
        said(x, "safe or kin and walks", 3, 0, 5);
        said(x, "(safe or kin) and walks", 4, 5);
        said(x, "kin and walks or safe", 3, 0, 5);
        said(x, "not safe and not walks", 4, 1, 2, 3);
        said(x, "not(safe or walks)", 4, 1, 2, 3);
        said(x, "safe or waits or outlaw and kin", 4, 0, 2);
        said(x, "number=1 or number=2 and number=3 or number=4", 4, 1, 4);
        c.is("38: k below NONE", x.said(-2), -1);
        x.days(1, 1);
        Checks.sentence(x, "slain");
        c.is("38: as they are now", x.said(-1), 0);
        Checks.sentence(x, "sailed");
        c.is("38: as they are now", x.said(-1), 2);
        x.undo();
        c.is("38: as they are now", x.said(-1), 1);
    }

    private static void images() {
        RoadToPort x = Checks.landOf(SMALL);
        c.is("40: nothing is kept there", x.restore(0), false);
        c.is("39: no such one", x.image(2), false);
        c.is("39: no such one", x.image(-1), false);
        c.is("40: no such one", x.restore(2), false);
        c.is("40: no such one", x.restore(-1), false);
        Checks.sentence(x, "safe");
        x.swear(0, 2, 9);
        x.days(1, 1);
        c.is("39: kept", x.image(1), true);
        c.is("40: nothing is kept there", x.restore(0), false);
        c.is("39: acts can still be undone", x.undo(), 1);
        x.days(1, 1);
        x.way(1, 2);
        c.is("4: another LAND", Checks.land(x, "church a;port p 1 1 1;man z a 1 1;"), 3);
        c.is("39: kept", x.image(0), true);
        Checks.tell(x, "abc");
        c.is("40: brought back", x.restore(1), true);
        c.is("40: the tape stays", x.count(4), 3);
        c.is("40: LAND", x.count(0), 4);
        c.is("40: FAR", x.far(0, 2), 9);
        c.is("40: the DAY", x.now(0), 1);
        c.is("40: the SENTENCE", x.said(0), 1);
        c.is("40: as he was", x.man(0, 7), 4);
        c.is("40: nothing can be undone", x.undo(), -1);
        c.is("40: what was told stays", x.wayAt(1), 2);
        c.is("40: the other one", x.restore(0), true);
        c.is("40: LAND", x.count(0), 2);
        c.is("40: no SENTENCE", x.said(-1), -1);
        x.get(0, 9);
        c.is("40: again", x.restore(0), true);
        c.is("40: as it was", x.man(0, 2), 1);
        c.is("39: an empty LAND", new RoadToPort().image(0), true);
        c.is("40: a NAME of the LAND brought back", x.restore(1), true);
        c.is("40: a NAME of the LAND brought back", Checks.oath(x, 1).equals("kim in cell"), true);
        x.end(0);
        c.is("40: a BOOK of it", Checks.book(x, "kim swears dover 3;", 1), -1);
    }

    private static void count() {
        RoadToPort x = Checks.landOf(SMALL + "port far 1 1 1;");
        c.is("41: PLACES", x.count(0), 5);
        c.is("41: roads", x.count(1), 3);
        c.is("41: MEN", x.count(2), 2);
        c.is("41: ports", x.count(3), 2);
        c.is("41: bytes", x.count(4), 0);
        c.is("41: another", x.count(5), -1);
        c.is("41: another", x.count(-1), -1);
        Checks.tell(x, "church");
        c.is("41: bytes", x.count(4), 6);
        Checks.land(x, "x".repeat(30));
        c.is("41: PLACES", x.count(0), 5);
    }
}
