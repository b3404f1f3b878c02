/** Each sentence on a text that names a boundary: TOKENS, LANDS, BOOKS, SENTENCES and their FAULTS, in the document's order. */
public final class TextEdgesTest {
    private static final Checks c = new Checks();

    private static final String[] KEYWORDS = {"church", "inn", "port", "road", "ford", "man", "kin", "swears", "orders", "slips",
        "enters", "gets", "day", "or", "and", "not", "safe", "walks", "waits", "sailed", "outlaw", "slain", "to", "at", "coin",
        "days", "miles", "number"};

    /** A church, a port with MILES to it, an inn; two MEN, the second with kin. */
    private static final String LAND = "church a;port p 6 0 2;inn i;road a p 4 1;man tom a 20 99;man kim a 2 5;kin kim;";

    public static void main(String[] args) {
        blanks();
        words();
        numbers();
        tokensGoOn();
        bytesOfALand();
        bytesOfABook();
        bytesOfASentence();
        rangesOfALand();
        rangesOfABook();
        rangesOfASentence();
        names();
        namesOfMany();
        unlike();
        asManyAsMayBe();
        sorts();
        linesOfABook();
        ones();
        within();
        joining();
        cutShort();
        grammar();
        theFirstAndTheLeast();
        c.close("TextEdgesTest");
    }

    // ---- TOKENS ----

    private static void blanks() {
        c.says("with blanks (32, 10) between them or not");
        c.landIs("", 0);
        c.landIs(" ", 0);
        c.landIs("\n", 0);
        c.landIs(" \n \n", 0);
        c.landIs("church a;inn b;", 2);
        c.landIs("church\na;inn\nb;", 2);
        c.landIs("\n\n church \n a \n ; \n\n inn  b\n;\n", 2);
        c.sentenceIs(LAND, "not(coin<5 and safe)or(days>0)", 6);
        c.sentenceIs(LAND, " not ( coin < 5 \n and safe ) or ( days > 0 ) ", 6);
        c.bookIs(LAND, "tom\nswears\np\n5\n;day 1;", -1);
        for (int b = 0; b < 256; b++) {
            betweenTokens((char) b);
            inAComparison((char) b);
        }
        c.landFault("\tchurch a;", 1, 0);
        c.landFault("church a;\r\n", 1, 9);
        c.landFault("church a;\0", 1, 9);
    }

    private static void betweenTokens(char b) {
        String text = "church a" + b + ";";
        if (b == 't') {
            // 'at' is a WORD of a SENTENCE.
            c.landFault(text, 1, 7);
        } else if (b == ' ' || b == '\n' || b >= 'a' && b <= 'z') {
            c.landIs(text, 1);
        } else if (b >= '0' && b <= '9') {
            c.landFault(text, 1, 7);
        } else {
            c.landFault(text, 1, b == ';' ? 9 : 8);
        }
    }

    private static void inAComparison(char b) {
        String text = "coin" + b + "5";
        if (b == '<' || b == '=' || b == '>') {
            c.sentenceIs(LAND, text, 1);
        } else if (b == ' ' || b == '\n') {
            c.sentenceFault(LAND, text, 1, 5);
        } else if (b >= 'a' && b <= 'z' || b >= '0' && b <= '9') {
            c.sentenceFault(LAND, text, 1, 0);
        } else {
            c.sentenceFault(LAND, text, 1, 4);
        }
    }

    private static void words() {
        c.says("WORDS: small letters, 1 to 7");
        c.landIs("church a;", 1);
        c.landIs("church z;", 1);
        c.landIs("church abcdefg;", 1);
        c.landIs("church zzzzzzz;", 1);
        c.landFault("church abcdefgh;", 1, 7);
        c.landFault("church zzzzzzzzzzzzzz;", 1, 7);
        c.landFault("church ;", 1, 7);
        c.landFault("church A;", 1, 7);
        c.landFault("church aB;", 1, 8);
        c.landFault("church `;", 1, 7);
        c.landFault("church {;", 1, 7);
        c.landFault("church \u00e1;", 1, 7);
        c.landIs("church a;man abcdefg a 1 1;kin abcdefg;", 3);
        c.landFault("church a;man abcdefgh a 1 1;", 1, 13);
        c.landFault("church abcdefg;man x abcdefgh 1 1;", 1, 21);
        c.landFault("church a;man abcdefg a 1 1;kin abcdefgh;", 1, 31);
        // A NAME of seven letters is itself alone, from the first to the last of them.
        String seven = "church abcdefg;inn abcdefh;inn bbcdefg;inn abcdef;port bcdefg 1 1 1;";
        c.landIs(seven, 5);
        RoadToPort x = Checks.landOf(seven + "road abcdefh bcdefg 7 0;");
        c.is("the road leads from the second", x.road(1, 4, 0), 7);
        c.landFault(seven + "inn abcdefg;", 3, seven.length() + 4);
        c.landFault(seven + "inn abcdefh;", 3, seven.length() + 4);
        c.landFault(seven + "inn bbcdefg;", 3, seven.length() + 4);
        c.landFault(seven + "inn bcdefg;", 3, seven.length() + 4);
    }

    private static void numbers() {
        c.says("NUMBERS: 1 to 3 digits");
        c.landIs("port p 5 7 1;", 1);
        c.landIs("port p 12 07 01;", 1);
        c.landIs("port p 012 007 001;", 1);
        c.landIs("port p 000 00 006;", 1);
        c.landFault("port p 0012 7 1;", 1, 7);
        c.landFault("port p 12 0007 1;", 1, 10);
        c.landFault("port p 12 7 0001;", 1, 12);
        c.landFault("port p 12 00000000000000000007 1;", 1, 10);
        c.landFault("port p 4294967296 7 1;", 1, 7);
        c.landFault("port p 12 7 ;", 1, 12);
        c.landFault("port p -1 7 1;", 1, 7);
        c.landFault("port p 1/ 7 1;", 1, 8);
        c.landFault("port p 1: 7 1;", 1, 8);
        RoadToPort x = Checks.landOf("port p 008 070 005;");
        c.is("ODDS 008", x.place(0, 1), 8);
        c.is("PAY 070", x.place(0, 2), 70);
        c.is("HOLDS 005", x.place(0, 3), 5);
        c.bookFault(LAND, "day 0001;", 1, 4);
        c.bookIs(LAND, "day 001;", -1);
        c.sentenceFault(LAND, "coin = 0005", 1, 7);
        c.sentenceIs(LAND, "coin = 005", 1);
    }

    private static void tokensGoOn() {
        c.says("A WORD, NUMBER goes on as long as small letters and digits do; what is not as told is no TOKEN.");
        c.landFault("church a1;", 1, 7);
        c.landFault("church 1a;", 1, 7);
        c.landFault("church1 a;", 1, 0);
        c.landFault("1church a;", 1, 0);
        c.landFault("churcha;", 1, 0);
        c.landFault("church a;port b 1 1 1;road a b 1 0ford;", 1, 33);
        c.landFault("church a;port b 1 1 1;road a b 1 0 ford1;", 1, 35);
        c.landFault("port b 1 1 1x;", 1, 11);
        c.bookFault(LAND, "day1;", 1, 0);
        c.bookFault(LAND, "tom1 slips;", 1, 0);
        c.bookFault(LAND, "tom gets 5tom;", 1, 9);
        c.sentenceFault(LAND, "coin<5and safe", 1, 5);
        c.sentenceFault(LAND, "notsafe", 1, 0);
        c.sentenceFault(LAND, "not5", 1, 0);
        c.sentenceFault(LAND, "a", 1, 0);
    }

    // ---- how many bytes ----

    private static void bytesOfALand() {
        c.says("A LAND is a text of at most 900 bytes");
        String two = "church a;inn b;";
        c.landIs(two + " ".repeat(884), 2);
        c.landIs(two + " ".repeat(885), 2);
        c.landFault(two + " ".repeat(886), 1, 900);
        c.landFault(two + " ".repeat(925), 1, 900);
        c.landIs(" ".repeat(885) + two, 2);
        c.landFault(" ".repeat(886) + two, 1, 900);
        c.landIs(" ".repeat(900), 0);
        c.landFault(" ".repeat(901), 1, 900);
        c.landFault(" ".repeat(940), 1, 900);
        c.landFault("\n".repeat(940), 1, 900);
        c.says("the most bytes told, if there are more and no FAULT is ahead");
        c.landFault(Checks.filled(two, 900) + "x", 1, 900);
        c.landFault(Checks.filled(two, 900) + ";", 1, 900);
        c.landFault(Checks.filled(two, 900) + "church a;", 1, 900);
        c.landFault(Checks.filled(two + "port p 13", 940), 2, 22);
        c.landFault(Checks.filled(two + "church a;", 940), 3, 22);
        c.landFault(Checks.filled(two, 899) + "x;", 1, 899);
        c.landFault(Checks.filled(two, 899) + "\u00ff;", 1, 899);
        c.landFault(Checks.filled(two + "port p 1 1", 900) + "7;", 1, 900);
        c.landFault(Checks.filled(two + "port p 1 1", 899) + "7;", 2, 899);
        c.landFault(Checks.filled(two + "church", 900) + "c;", 1, 900);
        c.landFault(Checks.filled(two + "church", 940), 1, 900);
        c.says("TOKENS that begin ahead of it are read whole");
        c.landFault(Checks.filled(two + "church", 899) + "cell;", 1, 900);
        c.landFault(Checks.filled(two + "church", 893) + "abcdefg;", 1, 900);
        c.landFault(Checks.filled(two + "church", 893) + "abcdefgh;", 1, 893);
        c.landFault(Checks.filled(two + "church", 899) + "abcdefgh;", 1, 899);
        c.landFault(Checks.filled(two + "church", 899) + "a;", 3, 899);
        c.landFault(Checks.filled(two + "church", 899) + "ab;", 1, 900);
        c.landFault(Checks.filled(two + "port p 1 1", 899) + "06;", 1, 900);
        c.landFault(Checks.filled(two + "port p 1 1", 899) + "06a;", 1, 899);
        c.landFault(Checks.filled(two + "port p 1 1", 899) + "007;", 2, 899);
        c.landFault(Checks.filled(two + "port p 1 1", 899) + "0007;", 1, 899);
        c.landFault(Checks.filled(two, 899) + "church cell;", 1, 900);
        c.landFault(Checks.filled(two, 899) + "churchs cell;", 1, 899);
    }

    private static void bytesOfABook() {
        c.says("A BOOK is a text of at most 400 bytes");
        c.bookIs(LAND, "", -1);
        c.bookIs(LAND, Checks.filled("day 1;", 399), -1);
        c.bookIs(LAND, Checks.filled("day 1;", 400), -1);
        c.bookFault(LAND, Checks.filled("day 1;", 401), 1, 400);
        c.bookFault(LAND, Checks.filled("day 1;", 940), 1, 400);
        c.bookIs(LAND, " ".repeat(394) + "day 1;", -1);
        c.bookFault(LAND, " ".repeat(395) + "day 1;", 1, 400);
        c.bookIs(LAND, " ".repeat(400), -1);
        c.bookFault(LAND, " ".repeat(401), 1, 400);
        c.bookFault(LAND, Checks.filled("day 1;", 400) + "x", 1, 400);
        c.bookFault(LAND, Checks.filled("day 1;", 399) + "x;", 3, 399);
        c.bookFault(LAND, Checks.filled("day", 399) + "30;", 1, 400);
        c.bookFault(LAND, Checks.filled("day", 399) + "31;", 2, 399);
        c.bookFault(LAND, Checks.filled("day", 400) + "31;", 1, 400);
    }

    private static void bytesOfASentence() {
        c.says("A SENTENCE is a text of at most 200 bytes");
        c.sentenceIs(LAND, Checks.filled("kin", 199), 1);
        c.sentenceIs(LAND, Checks.filled("kin", 200), 1);
        c.sentenceFault(LAND, Checks.filled("kin", 201), 1, 200);
        c.sentenceFault(LAND, Checks.filled("kin", 940), 1, 200);
        c.sentenceIs(LAND, " ".repeat(197) + "kin", 1);
        c.sentenceFault(LAND, " ".repeat(198) + "kin", 1, 200);
        c.sentenceFault(LAND, " ".repeat(199) + "kin", 1, 200);
        c.sentenceFault(LAND, " ".repeat(199) + "king", 1, 199);
        c.sentenceFault(LAND, " ".repeat(199) + "tom", 1, 199);
        c.sentenceFault(LAND, " ".repeat(200) + "tom", 1, 200);
        c.sentenceFault(LAND, " ".repeat(200), 1, 200);
        c.sentenceFault(LAND, " ".repeat(201), 1, 200);
        c.sentenceFault(LAND, Checks.filled("at", 199) + "xyz", 3, 199);
        c.sentenceFault(LAND, Checks.filled("at", 200) + "xyz", 1, 200);
    }

    // ---- from the least to the most ----

    /** A NUMBER in a LAND: its bounds are taken, what is beyond them is no such NUMBER, at it. */
    private static void landNumber(String ahead, int low, int high, String behind) {
        for (int n : new int[] {low, low + 1, high - 1, high}) {
            String text = ahead + n + behind;
            c.landIs(text, (int) text.chars().filter(s -> s == ';').count());
        }
        if (low > 0) {
            c.landFault(ahead + (low - 1) + behind, 2, ahead.length());
        }
        for (int n : new int[] {high + 1, high + 2, 999}) {
            c.landFault(ahead + n + behind, 2, ahead.length());
        }
        c.landFault(ahead + 1000 + behind, 1, ahead.length());
    }

    private static void rangesOfALand() {
        c.says("2 a NUMBER that is not as told (at it)");
        c.landFault("port p   13 0 1;", 2, 9);
        c.landFault("port p\n013 0 1;", 2, 7);
        c.landFault("port p 12 0 7 ;", 2, 12);
        c.says("'port' NAME ODDS PAY HOLDS (0 to 12; 0 to 99; 1 to 6)");
        landNumber("port p ", 0, 12, " 99 6;");
        landNumber("port p 12 ", 0, 99, " 6;");
        landNumber("port p 12 99 ", 1, 6, ";");
        c.says("'road' PLACE PLACE MILES DANGER [ 'ford' ] (unlike; 1 to 30; 0 to 12");
        landNumber("church a;inn b;road a b ", 1, 30, " 12;");
        landNumber("church a;inn b;road a b 30 ", 0, 12, ";");
        landNumber("church a;inn b;road a b 30 ", 0, 12, " ford;");
        c.says("'man' NAME CHURCH PACE COIN (1 to 20; 0 to 99)");
        landNumber("church a;man t a ", 1, 20, " 99;");
        landNumber("church a;man t a 20 ", 0, 99, ";");
        // What is taken is told again.
        RoadToPort x = Checks.landOf("church a;port p 0 0 1;port q 12 99 6;road a p 1 0;road a q 30 12 ford;man t a 1 0;man u a 20 99;");
        int[][] due = {{1, 1, 0}, {1, 2, 0}, {1, 3, 1}, {2, 1, 12}, {2, 2, 99}, {2, 3, 6}};
        for (int[] d : due) {
            c.is("place(" + d[0] + ", " + d[1] + ")", x.place(d[0], d[1]), d[2]);
        }
        c.is("the fewest MILES", x.road(0, 1, 0), 1);
        c.is("the least DANGER", x.road(0, 1, 1), 0);
        c.is("no ford", x.road(0, 1, 2), 0);
        c.is("the most MILES", x.road(0, 2, 0), 30);
        c.is("the greatest DANGER", x.road(0, 2, 1), 12);
        c.is("a ford", x.road(0, 2, 2), 1);
        c.is("the least PACE", x.man(0, 1), 1);
        c.is("no COIN", x.man(0, 2), 0);
        c.is("the greatest PACE", x.man(1, 1), 20);
        c.is("the most COIN told", x.man(1, 2), 99);
    }

    private static void bookNumber(String ahead, int low, int high, int line) {
        for (int n : new int[] {low, low + 1, high - 1, high}) {
            c.bookIs(LAND, ahead + n + ";", line);
        }
        if (low > 0) {
            c.bookFault(LAND, ahead + (low - 1) + ";", 2, ahead.length());
        }
        for (int n : new int[] {high + 1, high + 2, 999}) {
            c.bookFault(LAND, ahead + n + ";", 2, ahead.length());
        }
        c.bookFault(LAND, ahead + "1000;", 1, ahead.length());
    }

    private static void rangesOfABook() {
        c.says("N of 'swears' 1 to 40, of 'orders' 0 to 20, of 'gets' 1 to 99, of 'day' 1 to 30: its seed, too");
        bookNumber("tom swears p ", 1, 40, -1);
        bookNumber("tom orders ", 0, 20, 0);
        bookNumber("tom gets ", 1, 99, -1);
        bookNumber("day ", 1, 30, -1);
        RoadToPort x = Checks.landOf(LAND);
        c.is("swears 40", Checks.book(x, "tom swears p 40;", 1), -1);
        c.is("40 DAYS", x.man(0, 9), 40);
        c.is("orders 0", Checks.book(x, "tom orders 0;", 1), -1);
        c.is("0 MILES", x.man(0, 10), 0);
        c.is("orders 20", Checks.book(x, "tom orders 20;", 1), -1);
        c.is("20 MILES", x.man(0, 10), 20);
        c.is("gets 99", Checks.book(x, "tom gets 99;", 1), -1);
        c.is("99 more", x.man(0, 2), 198);
        c.is("day 30", Checks.book(x, "day 30;", 1), -1);
        c.is("30 DAYS", x.now(0), 30);
    }

    private static void rangesOfASentence() {
        c.says("( 'coin' | 'days' | 'miles' | 'number' ) SIGN NUMBER");
        for (String of : new String[] {"coin", "days", "miles", "number"}) {
            for (String sign : new String[] {"<", "=", ">"}) {
                c.sentenceIs(LAND, of + sign + "0", 1);
                c.sentenceIs(LAND, of + sign + "999", 1);
                c.sentenceFault(LAND, of + sign + "1000", 1, of.length() + 1);
                c.sentenceFault(LAND, of + sign, 1, of.length() + 1);
            }
        }
    }

    // ---- NAMES ----

    private static void names() {
        c.says("NAME: a WORD, none of those told here, in a BOOK or a SENTENCE");
        for (String word : KEYWORDS) {
            c.landFault("church " + word + ";", 1, 7);
            c.landFault("inn " + word + ";", 1, 4);
            c.landFault("port " + word + " 1 1 1;", 1, 5);
            c.landFault("church a;man " + word + " a 1 1;", 1, 13);
            c.landFault("church a;man t " + word + " 1 1;", 1, 15);
            c.landFault("church a;kin " + word + ";", 1, 13);
            c.landFault("church a;inn b;road " + word + " b 1 1;", 1, 20);
            c.landFault("church a;inn b;road a " + word + " 1 1;", 1, 22);
            c.bookFault(LAND, "tom swears " + word + " 5;", 1, 11);
            c.sentenceFault(LAND, "at " + word, 1, 3);
            c.sentenceFault(LAND, "to " + word, 1, 3);
            if (!word.equals("day")) {
                c.bookFault(LAND, word + " slips;", 1, 0);
            }
            // A letter more or less, and it is a NAME.
            if (word.length() < 7) {
                c.landIs("church " + word + "z;", 1);
            }
            if (!word.equals("days")) {
                c.landIs("church " + word.substring(0, word.length() - 1) + ";", 1);
            }
            c.landIs("church " + word.substring(1) + ";", 1);
        }
        // Those that stand in the document for something else are NAMES.
        for (String word : new String[] {"name", "place", "sign", "one", "all", "cond", "line", "coins", "mile", "pay", "odds",
            "wades", "safer", "swear", "order", "slip", "enter", "get", "land", "book", "waded"}) {
            c.landIs("church " + word + ";", 1);
        }
        c.says("told once");
        c.landFault("church a;church a;", 3, 16);
        c.landFault("inn a;port a 1 1 1;", 3, 11);
        c.landFault("port a 1 1 1;inn a;", 3, 17);
        c.landFault("church a;man a a 1 1;", 3, 13);
        c.landFault("church a;man t a 1 1;man t a 1 1;", 3, 25);
        c.landFault("church a;man t a 1 1;church t;", 3, 28);
        c.landFault("church a;inn b;inn c;inn d;inn e;inn f;inn g;inn h;inn i;inn a;", 3, 61);
        c.landIs("church a;man t a 1 1;inn b;man u a 1 1;", 4);
        // A NAME of the LAND before may be told again.
        RoadToPort x = Checks.landOf("church a;man t a 1 1;");
        c.is("the next LAND", Checks.land(x, "church t;man a t 1 1;"), 2);
        c.is("a LAND with a FAULT", Checks.land(x, "church u;inn v;x"), -1 - 15);
        c.is("its NAMES were never told", Checks.land(x, "inn v;church u;"), 2);
    }

    private static void namesOfMany() {
        c.says("3 a NAME told twice, not told, or of another sort, two alike that must be unlike, or told again (at the second; of"
                + " 'kin' at the MAN)");
        c.landFault("church a;road b a 1 1;", 3, 14);
        c.landFault("church a;road a b 1 1;", 3, 16);
        c.landFault("road a b 1 1;church a;church b;", 3, 5);
        c.landFault("man t a 1 1;church a;", 3, 6);
        c.landFault("church a;kin t;man t a 1 1;", 3, 13);
        c.landFault("church a;man t a 1 1;road t a 1 1;", 3, 26);
        c.landFault("church a;man t a 1 1;road a t 1 1;", 3, 28);
        c.landFault("church a;inn b;man t b 1 1;", 3, 21);
        c.landFault("church a;port b 1 1 1;man t b 1 1;", 3, 28);
        c.landFault("church a;man t a 1 1;man u t 1 1;", 3, 27);
        c.landFault("church a;man t t 1 1;", 3, 15);
        c.landFault("church a;kin a;", 3, 13);
        c.bookFault(LAND, "a slips;", 3, 0);
        c.bookFault(LAND, "p slips;", 3, 0);
        c.bookFault(LAND, "tim slips;", 3, 0);
        c.bookFault(LAND, "tom swears a 1;", 3, 11);
        c.bookFault(LAND, "tom swears i 1;", 3, 11);
        c.bookFault(LAND, "tom swears tom 1;", 3, 11);
        c.bookFault(LAND, "tom swears q 1;", 3, 11);
        c.sentenceFault(LAND, "at tom", 3, 3);
        c.sentenceFault(LAND, "to kim", 3, 3);
        c.sentenceFault(LAND, "at q", 3, 3);
        c.sentenceFault(LAND, "to q", 3, 3);
        c.sentenceFault(LAND, "not at q", 3, 7);
        for (String place : new String[] {"a", "p", "i"}) {
            c.sentenceIs(LAND, "at " + place, 1);
            c.sentenceIs(LAND, "to " + place, 1);
        }
        // NAMES are those of the LAND now.
        RoadToPort x = Checks.landOf(LAND);
        Checks.land(x, "church cell;man ned cell 1 1;");
        c.is("a MAN of the LAND before", Checks.book(x, "tom gets 1;", 0), -2);
        c.is("it is told as a FAULT", x.fault(), 3);
        c.is("a PLACE of the LAND before", Checks.sentence(x, "at a"), -1 - 3);
        c.is("it is told as a FAULT", x.fault(), 3);
        c.is("a MAN of the LAND now", Checks.book(x, "ned gets 1;", 0), -1);
        c.is("a PLACE of the LAND now", Checks.sentence(x, "at cell"), 1);
        // An empty LAND has none.
        c.bookFault("", "tom slips;", 3, 0);
        c.sentenceFault("", "at a", 3, 3);
        c.bookIs("", "day 30;", -1);
        c.sentenceIs("", "safe", 1);
    }

    private static void unlike() {
        c.says("unlike");
        c.landFault("church a;inn b;road a a 1 1;", 3, 22);
        c.landFault("church a;inn b;road b b 1 1;", 3, 22);
        c.says("each two once, in whatever order");
        String one = "church a;inn b;inn d;road a b 1 1;";
        c.landFault(one + "road a b 1 1;", 3, one.length() + 7);
        c.landFault(one + "road b a 1 1;", 3, one.length() + 7);
        c.landFault(one + "road a b 30 0 ford;", 3, one.length() + 7);
        c.landFault(one + "road a d 1 1;road b a 1 1;", 3, one.length() + 20);
        c.landIs(one + "road a d 1 1;road d b 1 1;", 6);
        c.landFault(one + "road a d 1 1;road d b 1 1;road b d 1 1;", 3, one.length() + 33);
        c.says("'kin' MAN (each once)");
        String man = "church a;man t a 1 1;man u a 1 1;kin t;";
        c.landFault(man + "kin t;", 3, man.length() + 4);
        c.landIs(man + "kin u;", 5);
        c.landFault(man + "kin u;kin u;", 3, man.length() + 10);
        c.landFault(man + "kin u;kin t;", 3, man.length() + 10);
        // Kin and roads of the LAND before are not told again by this one.
        RoadToPort x = Checks.landOf(one + "man t a 1 1;kin t;");
        c.is("the same LAND", Checks.land(x, one + "man t a 1 1;kin t;"), 6);
        c.is("a third time", Checks.land(x, one + "man t a 1 1;"), 5);
        c.is("kin no more", x.man(0, 3), 0);
    }

    // ---- as many as there may be ----

    private static String list(String line, int n) {
        StringBuilder text = new StringBuilder();
        for (int k = 0; k < n; k++) {
            text.append(line.replace("?", String.valueOf((char) ('a' + k))));
        }
        return text.toString();
    }

    private static String roads(int n) {
        StringBuilder text = new StringBuilder();
        int told = 0;
        for (char a = 'a'; a <= 'g'; a++) {
            for (char b = 'a'; b < a && told < n; b++) {
                text.append("road ").append(a).append(' ').append(b).append(" 9 9;");
                told++;
            }
        }
        return text.toString();
    }

    private static void asManyAsMayBe() {
        c.says("10 PLACES (churches, inns, ports), 16 roads, 6 MEN at most");
        c.says("4 one more than there may be of a sort, a 41st LINE of a BOOK (at the LINE's first WORD)");
        for (String line : new String[] {"church ?;", "inn ?;", "port ? 1 1 1;"}) {
            String ten = list(line, 10);
            c.landIs(list(line, 9), 9);
            c.landIs(ten, 10);
            for (String more : new String[] {"church k;", "inn k;", "port k 1 1 1;", "inn", "church 1", "port inn", "inn a;"}) {
                c.landFault(ten + more, 4, ten.length());
            }
            c.landFault(ten + "\n " + "inn k;", 4, ten.length() + 2);
        }
        String mixed = "church a;" + "inn b;inn c;inn d;" + "port e 1 1 1;port f 1 1 1;port g 1 1 1;port h 1 1 1;port i 1 1 1;port j 1 1 1;";
        c.landIs(mixed, 10);
        c.landFault(mixed + "church k;", 4, mixed.length());
        RoadToPort x = Checks.landOf(mixed);
        c.is("PLACES", x.count(0), 10);
        c.is("ports", x.count(3), 6);
        c.is("the tenth one", x.place(9, 0), 2);
        String seven = list("inn ?;", 7);
        String sixteen = seven + roads(16);
        c.landIs(seven + roads(15), 22);
        c.landIs(sixteen, 23);
        for (String more : new String[] {"road g e 1 1;", "road", "road a a 1 1;", "road x y 0 99;", "road a b 1 1;"}) {
            c.landFault(sixteen + more, 4, sixteen.length());
        }
        c.landIs(sixteen + "inn x;", 24);
        c.is("roads", Checks.landOf(sixteen).count(1), 16);
        String six = "church x;" + list("man ? x 20 99;", 6);
        c.landIs("church x;" + list("man ? x 20 99;", 5), 6);
        c.landIs(six, 7);
        for (String more : new String[] {"man g x 20 99;", "man", "man a x 1 1;", "man g y 1 1;", "man g x 99 1;"}) {
            c.landFault(six + more, 4, six.length());
        }
        c.landIs(six + list("kin ?;", 6), 13);
        c.landFault(six + list("kin ?;", 6) + "kin f;", 3, six.length() + 40);
        c.is("MEN", Checks.landOf(six).count(2), 6);
        // All at once, and the LAND behind it begins to count anew.
        String all = list("church ?;", 10) + roads(16) + list("man m? a 20 99;", 6);
        c.landIs(all, 32);
        x = Checks.landOf(all);
        c.is("all once more", Checks.land(x, all), 32);
        c.is("a PLACE too many", Checks.land(x, list("inn ?;", 11)), -1 - 60);
        c.is("all once more", Checks.land(x, all), 32);
        c.is("PLACES", x.count(0), 10);
        c.is("roads", x.count(1), 16);
        c.is("MEN", x.count(2), 6);
        c.is("ports", x.count(3), 0);
        c.is("fewer", Checks.land(x, "port p 1 1 1;inn i;"), 2);
        c.is("PLACES", x.count(0), 2);
        c.is("roads", x.count(1), 0);
        c.is("MEN", x.count(2), 0);
        c.is("ports", x.count(3), 1);
        c.is("none", x.land(), 0);
        c.is("ports", x.count(3), 0);
    }

    private static void sorts() {
        c.says("PLACES, roads, MEN numbered from 0 each");
        RoadToPort x = Checks.landOf("inn i;church c;man t c 3 1;road c i 2 1;port p 1 2 3;man u c 4 2;road p i 3 2;kin u;inn j;");
        int[] places = {1, 0, 2, 1};
        for (int p = 0; p < 4; p++) {
            c.is("place(" + p + ", 0)", x.place(p, 0), places[p]);
        }
        c.is("place(4, 0)", x.place(4, 0), -1);
        c.is("the first MAN", x.man(0, 1), 3);
        c.is("the second MAN", x.man(1, 1), 4);
        c.is("the second MAN has kin", x.man(1, 3), 1);
        c.is("the first has none", x.man(0, 3), 0);
        c.is("the first road", x.worst(0, 1), 0);
        c.is("the second road", x.worst(0, 2), 1);
    }

    private static void linesOfABook() {
        c.says("{ LINE ; }, 40 at most");
        c.says("a 41st LINE of a BOOK (at the LINE's first WORD)");
        String line = "tom gets 1;";
        String days = "day 1;".repeat(39);
        c.bookIs(LAND, days, -1);
        c.bookIs(LAND, days + "day 1;", -1);
        c.bookFault(LAND, days + "day 1;day 1;", 4, 240);
        c.bookFault(LAND, days + "day 1;\n \nday 1;", 4, 243);
        c.bookFault(LAND, days + line + "kim gets 1;", 4, 245);
        c.bookFault(LAND, days + line + "day", 4, 245);
        c.bookFault(LAND, days + line + "day 99;", 4, 245);
        c.bookFault(LAND, days + line + "tom", 4, 245);
        c.bookFault(LAND, days + line + "tom walks;", 4, 245);
        c.bookFault(LAND, days + line + "tim gets 1;", 3, 245);
        c.bookFault(LAND, days + line + "gets 1;", 1, 245);
        c.bookFault(LAND, days + line + ";", 1, 245);
        c.bookFault(LAND, days + line + "1;", 1, 245);
        c.bookFault(LAND, days + line + "abcdefgh", 1, 245);
        RoadToPort x = Checks.landOf(LAND);
        c.is("all 40 are lived", Checks.book(x, "day 2;".repeat(40), 1), -1);
        c.is("the DAY", x.now(0), 80);
        c.is("LINES", x.told(1), 40);
        c.is("the fortieth is WRONG", Checks.book(x, "day 1;".repeat(39) + "tom slips;", 1), 39);
        c.is("the DAY", x.now(0), 119);
        c.is("a 41st: none is lived", Checks.book(x, "day 1;".repeat(41), 1), -2 - 240);
        c.is("the DAY", x.now(0), 119);
        // The LINES of a BOOK before are not read again.
        c.is("a short one behind it", Checks.book(x, "day 1;", 1), -1);
        c.is("LINES", x.told(1), 1);
        c.is("the DAY", x.now(0), 120);
        c.is("an empty one behind it", Checks.book(x, "", 1), -1);
        c.is("LINES", x.told(1), 0);
        c.is("the DAY", x.now(0), 120);
    }

    private static void ones() {
        c.says("20 ONES, 8 within one another");
        c.says("a 21st ONE, a ninth within (at its first TOKEN)");
        String nineteen = "kin" + " or kin".repeat(18);
        c.sentenceIs(LAND, nineteen, 19);
        c.sentenceIs(LAND, nineteen + " and safe", 20);
        c.sentenceFault(LAND, nineteen + " and safe or safe", 4, nineteen.length() + 13);
        c.sentenceFault(LAND, nineteen + " and safe or (", 4, nineteen.length() + 13);
        c.sentenceFault(LAND, nineteen + " and safe or not", 4, nineteen.length() + 13);
        c.sentenceFault(LAND, nineteen + " and safe or at", 4, nineteen.length() + 13);
        c.sentenceFault(LAND, nineteen + " and safe or coin", 4, nineteen.length() + 13);
        c.sentenceFault(LAND, nineteen + " and not safe", 4, nineteen.length() + 9);
        c.sentenceFault(LAND, nineteen + " and (safe)", 4, nineteen.length() + 6);
        c.sentenceFault(LAND, nineteen + " and safe or", 1, nineteen.length() + 12);
        c.sentenceFault(LAND, nineteen + " and safe safe", 1, nineteen.length() + 10);
        c.says("how many ONES (each not, bracket and other one)");
        String eighteen = "kin" + " and kin".repeat(17);
        c.sentenceIs(LAND, eighteen + " or not kin", 20);
        c.sentenceIs(LAND, eighteen + " or (kin)", 20);
        c.sentenceIs(LAND, eighteen + " or at a or to p", 20);
        c.sentenceIs(LAND, eighteen + " or coin<5 or number=0", 20);
        c.sentenceFault(LAND, eighteen + " or not (kin)", 4, eighteen.length() + 9);
        c.sentenceIs(LAND, "not kin" + " or not kin".repeat(9), 20);
        c.sentenceIs(LAND, "(kin)" + "or(kin)".repeat(9), 20);
        c.sentenceFault(LAND, "(kin)" + "or(kin)".repeat(10), 4, 5 + 9 * 7 + 2);
        // Twenty and no more can be said of MEN, too.
        RoadToPort x = Checks.landOf(LAND);
        c.is("twenty", Checks.sentence(x, "(not kin" + " and not kin".repeat(8) + " and number=0)"), 20);
        c.is("how many", x.said(-1), 1);
        c.is("who", x.said(0), 0);
        // ONES of a SENTENCE before do not count.
        for (int k = 0; k < 12; k++) {
            c.is("twenty again", Checks.sentence(x, nineteen + " or safe"), 20);
            c.is("all are SAFE", x.said(-1), 2);
            c.is("a single one", Checks.sentence(x, "number=1"), 1);
            c.is("who", x.said(0), 1);
            c.is("nobody else", x.said(1), -1);
        }
    }

    private static void within() {
        c.says("a ninth within (at its first TOKEN)");
        c.sentenceIs(LAND, "not not not not not not kin", 7);
        c.sentenceIs(LAND, "not not not not not not not kin", 8);
        c.sentenceFault(LAND, "not not not not not not not not kin", 4, 32);
        c.sentenceFault(LAND, "not not not not not not not not not", 4, 32);
        c.sentenceFault(LAND, "not not not not not not not not (", 4, 32);
        c.sentenceFault(LAND, "not not not not not not not not or", 1, 32);
        c.sentenceFault(LAND, "not not not not not not not not", 1, 31);
        c.sentenceIs(LAND, "((((((kin))))))", 7);
        c.sentenceIs(LAND, "(((((((kin)))))))", 8);
        c.sentenceFault(LAND, "((((((((kin))))))))", 4, 8);
        c.sentenceFault(LAND, "((((((((", 1, 8);
        c.sentenceIs(LAND, "not(not(not(not kin)))", 8);
        c.sentenceFault(LAND, "not(not(not(not(kin))))", 4, 16);
        // What stands beside is not within.
        c.sentenceIs(LAND, "(((((((kin or kin and kin)))))))", 10);
        c.sentenceIs(LAND, "(((((((kin)))))))or(((((((kin)))))))", 16);
        c.sentenceIs(LAND, "safe and not not not not not not not kin", 9);
        c.sentenceFault(LAND, "safe and not not not not not not not not kin", 4, 41);
        c.sentenceFault(LAND, "(((((((kin or not kin)))))))", 4, 18);
        c.sentenceFault(LAND, "(((((((kin or (kin))))))))", 4, 15);
        RoadToPort x = Checks.landOf(LAND);
        Checks.sentence(x, "not not not not not not not kin");
        c.is("who has no kin", x.said(0), 0);
        Checks.sentence(x, "not(not(not(not kin)))");
        c.is("who has kin", x.said(0), 1);
        Checks.sentence(x, "(((((((kin)))))))");
        c.is("who has kin", x.said(0), 1);
    }

    private static void said(String text, int... due) {
        RoadToPort x = Checks.landOf(LAND);
        Checks.sentence(x, text);
        c.is("how many of " + text, x.said(-1), due.length);
        for (int k = 0; k < due.length; k++) {
            c.is("said(" + k + ") of " + text, x.said(k), due[k]);
        }
        c.is("said behind the last of " + text, x.said(due.length), -1);
    }

    /** Of four cases by number=0 (tom) and kin (kim) each table of truth is gone through. */
    private static void joining() {
        c.says("COND: ALL { 'or' ALL }. ALL: ONE { 'and' ONE }. ONE: 'not' ONE | ( COND )");
        said("number=0 and kin");
        said("number=0 or kin", 0, 1);
        said("number=0 and number<2", 0);
        said("number<2 and number=0", 0);
        said("number=0 or number>9", 0);
        said("number>9 or number=0", 0);
        said("number<2 or number>9", 0, 1);
        said("number>9 and number<2");
        said("number=0 or kin and number>9", 0);
        said("(number=0 or kin) and number>9");
        said("number>9 and kin or number=0", 0);
        said("number>9 and (kin or number=0)");
        said("kin and kin or number=0 and number=0", 0, 1);
        said("kin and (kin or number=0) and number=0");
        said("not kin and number=0", 0);
        said("not (kin and number=0)", 0, 1);
        said("not kin or number=1", 0, 1);
        said("not (kin or number=0)");
        said("not number>9 and kin", 1);
        said("number=0 or kin or number>9", 0, 1);
        said("number>9 or number>9 or kin", 1);
        said("number<2 and number<2 and kin", 1);
        said("number<2 and number>9 and kin");
        said("number>9 or kin and number<2 or number>9", 1);
    }

    // ---- FAULTS ----

    /** A text whose TOKENS end too early: the FAULT is at its end; one that can't come instead: at it. */
    private static void cuts(String... tokens) {
        StringBuilder ahead = new StringBuilder();
        for (int k = 0; k < tokens.length; k++) {
            if (k > 0 && !tokens[k - 1].equals(";")) {
                c.landFault(ahead.toString(), 1, ahead.length());
                c.landFault(ahead + "\n  ", 1, ahead.length() + 3);
            }
            for (String odd : new String[] {"(", ")", "<", "=", ">", ".", "orders", "1a", "?", "abcdefgh", "1000"}) {
                c.landFault(ahead + odd, 1, ahead.length());
            }
            ahead.append(tokens[k]).append(tokens[k].equals(";") ? "" : " ");
        }
        c.landIs(ahead.toString(), (int) ahead.chars().filter(s -> s == ';').count());
    }

    private static void bookCuts(String... tokens) {
        StringBuilder ahead = new StringBuilder();
        for (int k = 0; k < tokens.length; k++) {
            if (k > 0 && !tokens[k - 1].equals(";")) {
                c.bookFault(LAND, ahead.toString(), 1, ahead.length());
                c.bookFault(LAND, ahead + " \n ", 1, ahead.length() + 3);
            }
            for (String odd : new String[] {"(", ")", "<", "=", ">", ".", "church", "and", "1a", "?", "abcdefgh", "1000"}) {
                c.bookFault(LAND, ahead + odd, 1, ahead.length());
            }
            ahead.append(tokens[k]).append(tokens[k].equals(";") ? "" : " ");
        }
        c.bookIs(LAND, ahead.toString(), -1);
    }

    private static void sentenceCuts(String... tokens) {
        StringBuilder ahead = new StringBuilder();
        for (String token : tokens) {
            c.sentenceFault(LAND, ahead.toString(), 1, ahead.length());
            c.sentenceFault(LAND, ahead + " \n ", 1, ahead.length() + 3);
            for (String odd : new String[] {";", ".", "church", "swears", "day", "1a", "?", "abcdefgh", "1000"}) {
                c.sentenceFault(LAND, ahead + odd, 1, ahead.length());
            }
            ahead.append(token).append(' ');
        }
        c.is("fine: " + ahead, Checks.sentence(Checks.landOf(LAND), ahead.toString()) > 0, true);
    }

    private static void cutShort() {
        c.says("1 no TOKEN, or one that can't come (at it; the end: how many bytes there are");
        cuts("church", "a", ";");
        cuts("inn", "a", ";");
        cuts("port", "a", "12", "99", "6", ";");
        cuts("church", "a", ";", "inn", "b", ";", "road", "a", "b", "30", "12", ";");
        cuts("church", "a", ";", "inn", "b", ";", "road", "a", "b", "30", "12", "ford", ";");
        cuts("church", "a", ";", "man", "t", "a", "20", "99", ";", "kin", "t", ";");
        bookCuts("tom", "swears", "p", "40", ";");
        bookCuts("tom", "swears", "p", "40", ";", "tom", "orders", "0", ";", "tom", "gets", "99", ";", "tom", "enters", ";");
        bookCuts("tom", "swears", "p", "40", ";", "tom", "slips", ";", "day", "30", ";");
        sentenceCuts("safe");
        sentenceCuts("not", "not", "kin");
        sentenceCuts("(", "safe", ")");
        sentenceCuts("not", "(", "to", "p", ")");
        sentenceCuts("at", "a");
        sentenceCuts("(", "coin", "<", "5", ")");
        // What may come behind a whole part is told by the end alone.
        c.sentenceFault(LAND, "safe or", 1, 7);
        c.sentenceFault(LAND, "safe and ", 1, 9);
        c.sentenceFault(LAND, "(safe and kin", 1, 13);
        c.sentenceFault(LAND, "safe and kin)", 1, 12);
        c.sentenceFault(LAND, "(safe) kin", 1, 7);
        c.sentenceFault(LAND, "safe not kin", 1, 5);
        c.sentenceFault(LAND, "safe (kin)", 1, 5);
        c.sentenceFault(LAND, "()", 1, 1);
        c.sentenceFault(LAND, "", 1, 0);
        c.sentenceFault(LAND, "coin < = 5", 1, 7);
        c.sentenceFault(LAND, "coin 5 <", 1, 5);
        c.sentenceFault(LAND, "coin < days", 1, 7);
        c.landFault(";", 1, 0);
        c.landFault("church a;;", 1, 9);
        c.landFault("church a inn b;", 1, 9);
        c.landFault("church a 1;", 1, 9);
        c.landFault("church a;man t a 1 1 1;", 1, 21);
        c.landFault("church a;man t a 1 1;kin t t;", 1, 27);
        c.landFault("church a;inn b;road a b 1 1 1;", 1, 28);
        c.bookFault(LAND, ";", 1, 0);
        c.bookFault(LAND, "day 1;;", 1, 6);
        c.bookFault(LAND, "tom slips 1;", 1, 10);
        c.bookFault(LAND, "tom enters p;", 1, 11);
        c.bookFault(LAND, "day 1 1;", 1, 6);
        c.bookFault(LAND, "day tom;", 1, 4);
        c.bookFault(LAND, "tom day 1;", 1, 4);
        c.bookFault(LAND, "tom swears 5 p;", 1, 11);
        c.bookFault(LAND, "tom orders p;", 1, 11);
        c.bookFault(LAND, "tom gets tom;", 1, 9);
    }

    /** Each WORD of the three kinds of texts, at the head of a LINE and of a ONE: those alone that the grammar has there. */
    private static void grammar() {
        c.says("MAN ( 'swears' PORT N | 'orders' N | 'slips' | 'enters' | 'gets' N ) | 'day' N");
        c.bookFault(LAND, "tom slips tom;", 1, 10);
        c.bookFault(LAND, "tom enters a;", 1, 11);
        c.bookFault(LAND, "tom swears p 1 1;", 1, 15);
        c.bookFault(LAND, "tom gets 1 1;", 1, 11);
        c.bookFault(LAND, "tom orders 1 1;", 1, 13);
        c.bookFault(LAND, "day tom 1;", 1, 4);
        c.says("SIGN: < = >.");
        c.sentenceFault(LAND, "coin (5)", 1, 5);
        c.sentenceFault(LAND, "coin <> 5", 1, 6);
        c.sentenceFault(LAND, "coin ! 5", 1, 5);
        said("number<1", 0);
        said("number=1", 1);
        said("number>0", 1);
        c.says("LINE: 'church' NAME | 'inn' NAME | 'port' NAME ODDS PAY HOLDS");
        String heads = " church inn port road man kin ";
        String acts = " swears orders slips enters gets ";
        String ones = " not safe walks waits sailed outlaw slain kin to at coin days miles number ";
        for (String word : KEYWORDS) {
            String blank = " " + word + " ";
            c.landFault(word, 1, heads.contains(blank) ? word.length() : 0);
            c.bookFault(LAND, "tom " + word, 1, acts.contains(blank)
                    ? 4 + word.length() : 4);
            c.bookFault(LAND, word, 1, word.equals("day") ? 3 : 0);
            RoadToPort x = Checks.landOf(LAND);
            int answer = Checks.sentence(x, word);
            boolean whole = ones.contains(blank) && " not to at coin days miles number ".indexOf(blank) < 0;
            c.is("sentence of " + word, answer, whole ? 1 : -1 - (ones.contains(blank) ? word.length() : 0));
            c.is("fault of " + word, x.fault(), whole ? 0 : 1);
        }
    }

    private static void theFirstAndTheLeast() {
        c.says("FAULTS, the first along the text, of one TOKEN the least");
        c.landFault("port p 13 100 9;x", 2, 7);
        c.landFault("church a;church a;port p 13 1 1;", 3, 16);
        c.landFault("port p 13 1 1;church p;", 2, 7);
        c.landFault("church a;road a a 99 99;", 3, 16);
        c.landFault("church a;road b b 1 1;", 3, 14);
        c.landFault("church a;inn b;road a b 99 99;", 2, 24);
        c.landFault("church a;man a b 99 100;", 3, 13);
        c.landFault("church a;man t b 99 100;", 3, 15);
        c.landFault("church a;man t a 99 100;", 2, 17);
        c.landFault("church a;man t a 9 100", 2, 19);
        c.landFault("church a;church a", 3, 16);
        c.landFault("port p 13", 2, 7);
        c.landFault("port p 1000", 1, 7);
        c.bookFault(LAND, "tim swears q 41;", 3, 0);
        c.bookFault(LAND, "tom swears q 41;", 3, 11);
        c.bookFault(LAND, "tom swears p 41", 2, 13);
        c.bookFault(LAND, "day 31;day 31;", 2, 4);
        c.bookFault(LAND, "day 1;tim slips;x", 3, 6);
        c.sentenceFault(LAND, "at x or coin < y", 3, 3);
        c.sentenceFault(LAND, "coin < y or at x", 1, 7);
        // A ninth within that would be the 21st ONE, too: it is one FAULT.
        String twelve = "kin" + " or kin".repeat(11) + " or ";
        c.sentenceFault(LAND, twelve + "not not not not not not not not kin", 4, twelve.length() + 32);
        c.sentenceFault(LAND, twelve + "not not not not not not not not tom", 1, twelve.length() + 32);
    }
}
