import java.util.LinkedHashMap;
import java.util.Map;

/** What a new LAND, an image and a tape that is read leave as it was, and what they make anew. */
public final class StaysTest {
    private static final Checks c = new Checks();

    private static final String OTHER = "port quay 1 2 3;church nave;inn abbey;road nave quay 9 9 ford;road quay abbey 1 1;"
            + "man kim nave 3 50;man bob nave 5 4;kin bob;";

    public static void main(String[] args) {
        newLand();
        newLandAsTheFirst();
        toldLastOverALand();
        toldLastOverAnImage();
        theFault();
        theTape();
        kept();
        keptAsItWas();
        keptWhole();
        twoPlaces();
        keptOfNothing();
        nothingCanBeUndone();
        imagesAndLands();
        c.close("StaysTest");
    }

    /** What is so: LAND, MEN and of whom the SENTENCE may be said. */
    private static Map<String, Long> so(RoadToPort x) {
        Map<String, Long> all = new LinkedHashMap<>();
        for (int what = 0; what < 4; what++) {
            all.put("count(" + what + ")", (long) x.count(what));
        }
        for (int what = 0; what < 7; what++) {
            all.put("now(" + what + ")", (long) x.now(what));
        }
        for (int m = 0; m < x.count(2); m++) {
            for (int what = 0; what < 14; what++) {
                all.put("man(" + m + ", " + what + ")", (long) x.man(m, what));
            }
        }
        for (int k = -1; k < 6; k++) {
            all.put("said(" + k + ")", (long) x.said(k));
        }
        for (int p = 0; p < x.count(0); p++) {
            for (int what = 0; what < 5; what++) {
                all.put("place(" + p + ", " + what + ")", (long) x.place(p, what));
            }
            for (int q = 0; q < p; q++) {
                ofTwo(all, x, p, q);
            }
        }
        return all;
    }

    private static void ofTwo(Map<String, Long> all, RoadToPort x, int p, int q) {
        String two = p + ", " + q;
        for (int what = 0; what < 3; what++) {
            all.put("road(" + two + ", " + what + ")", (long) x.road(p, q, what));
        }
        all.put("far(" + two + ")", (long) x.far(p, q));
        all.put("worst(" + two + ")", (long) x.worst(p, q));
        int n = x.way(p, q);
        all.put("way(" + two + ")", (long) n);
        for (int k = 1; k + 1 < n; k++) {
            all.put("way(" + two + ") at " + k, (long) x.wayAt(k));
        }
    }

    private static void alike(String what, RoadToPort x, RoadToPort y) {
        Map<String, Long> one = so(x);
        Map<String, Long> other = so(y);
        c.is(what + ": as much", one.size(), other.size());
        for (Map.Entry<String, Long> e : other.entrySet()) {
            c.is(what + ": " + e.getKey(), one.getOrDefault(e.getKey(), Long.MIN_VALUE), e.getValue());
        }
    }

    private static Map<String, Long> toldLast(RoadToPort x) {
        Map<String, Long> all = new LinkedHashMap<>();
        for (int k = 0; k < 6; k++) {
            all.put("wayAt(" + k + ")", (long) x.wayAt(k));
            all.put("planAt(" + k + ")", (long) x.planAt(k));
            all.put("sentTo(" + k + ")", (long) x.sentTo(k));
        }
        for (int i = 0; i < 13; i++) {
            all.put("byteAt(" + i + ")", (long) x.byteAt(i));
        }
        for (int what = 0; what < 4; what++) {
            all.put("told(" + what + ")", (long) x.told(what));
        }
        all.put("cutting()", (long) x.cutting());
        all.put("least()", (long) x.least());
        all.put("greatest()", (long) x.greatest());
        return all;
    }

    private static void stillTold(String what, RoadToPort x, Map<String, Long> before) {
        Map<String, Long> now = toldLast(x);
        for (Map.Entry<String, Long> e : before.entrySet()) {
            c.is(what + ": " + e.getKey(), now.get(e.getKey()), e.getValue());
        }
    }

    /** All calls that tell something for later have told it. */
    private static RoadToPort told() {
        RoadToPort x = Stage.six();
        x.cut(0, 1);
        x.way(4, 3);
        x.sent();
        x.swear(0, Stage.PORT, 9);
        x.plan(0, 0);
        x.feed(0x02030000, 0, 0, 0, 0);
        x.end(2);
        x.turned(1);
        x.oath(1);
        Checks.book(x, "cat gets 1;day 1;cat slips;", 0);
        return x;
    }

    // ---- a new LAND ----

    private static void newLand() {
        c.says("A new LAND: DAY 0, all SAFE in the church told, no SENTENCE; nothing can be undone (what other calls told last stays).");
        RoadToPort x = told();
        Checks.sentence(x, "walks");
        c.is("the next LAND", Checks.land(x, OTHER), 8);
        c.is("DAY 0", x.now(0), 0);
        c.is("all SAFE", x.now(1), 3);
        for (int what = 2; what < 7; what++) {
            c.is("now(" + what + ")", x.now(what), 0);
        }
        c.is("no SENTENCE", x.said(-1), -1);
        c.is("nothing can be undone", x.undo(), -1);
        int[][] men = {{0, 3, 50, 0, 0, -1, 1, 0, 0, 0, 3, 0, 0, 0}, {0, 5, 4, 1, 0, -1, 1, 0, 0, 0, 5, 0, 0, 0}};
        for (int m = 0; m < 2; m++) {
            for (int what = 0; what < 14; what++) {
                c.is("man(" + m + ", " + what + ")", x.man(m, what), men[m][what]);
            }
        }
        c.is("in the church told", x.place(1, 4), 3);
        c.is("nowhere else", x.place(0, 4) + x.place(2, 4), 0);
        c.is("an act, then none is left", x.get(0, 1) + x.undo(), 0);
        c.is("he may swear twice again", x.swear(0, 0, 40) + x.enter(0) + x.swear(0, 0, 40), 0);
        // A LAND with a FAULT is none.
        x = told();
        Checks.sentence(x, "walks");
        RoadToPort y = told();
        Checks.sentence(y, "walks");
        c.is("a LAND with a FAULT at its end", Checks.land(x, OTHER + "x"), -1 - OTHER.length());
        alike("the LAND before stays", x, y);
        c.is("acts can be undone", x.undo(), 1);
    }

    private static void newLandAsTheFirst() {
        c.says("The tape (empty then, here and below, whatever is answered, but where 'the tape stays' is told) is the LAND now");
        // Whatever was told ahead, of a LAND with as much as there may be, too, a LAND is as on a new object.
        String most = "church a;inn b;inn d;inn e;inn f;inn g;inn h;inn i;port y 12 0 6;port z 12 9 6;";
        StringBuilder all = new StringBuilder(most);
        String[] two = {"a b", "a d", "a e", "b d", "b e", "d e", "e f", "f g", "g h", "h i", "i y", "y z", "a z", "f z", "g z", "h z"};
        for (String ab : two) {
            all.append("road ").append(ab).append(" 2 12 ford;");
        }
        for (char k = 'a'; k < 'g'; k++) {
            all.append("man m").append(k).append(" a 20 99;");
        }
        String kin = "kin ma;kin mb;kin mc;kin md;kin me;kin mf;";
        for (int times = 1; times < 3; times++) {
            RoadToPort x = new RoadToPort();
            for (int k = 0; k < times; k++) {
                c.is("as much as may be", Checks.land(x, all + kin), 38);
                for (int m = 0; m < 6; m++) {
                    x.swear(m, 8, 9);
                    x.enter(m);
                    x.swear(m, 9, 9);
                    x.get(m, 99);
                }
                x.order(0, 0);
                x.days(4, 6);
            }
            c.is("the next LAND", Checks.land(x, Stage.LAND), 17);
            RoadToPort y = Checks.landOf(Stage.LAND);
            alike("behind " + times + " others", x, y);
            c.is("as there", Checks.book(x, Stage.BOOK, 1), Checks.book(y, Stage.BOOK, 1));
            for (int m = 0; m < 6; m++) {
                c.is("how " + m + " is", x.man(m, 0), m);
                c.is("of his WAY, " + m, x.man(m, 8), y.man(m, 8));
            }
            c.is("an empty one", x.land(), 0);
            alike("an empty one", x, new RoadToPort());
        }
    }

    private static void toldLastOverALand() {
        c.says("(what other calls told last stays)");
        for (String text : new String[] {"", OTHER, Stage.LAND, "church z;"}) {
            RoadToPort x = told();
            Map<String, Long> before = toldLast(x);
            for (Map.Entry<String, Long> e : before.entrySet()) {
                if (e.getKey().endsWith("(0)") || e.getKey().endsWith("()")) {
                    c.is("it is told: " + e.getKey(), e.getValue() >= 0, true);
                }
            }
            Checks.land(x, text);
            stillTold("over the LAND \"" + text + "\"", x, before);
            Checks.land(x, text + ";");
            stillTold("over a FAULT", x, before);
            x.land();
            stillTold("over an empty LAND", x, before);
        }
        // What a later call tells takes its place, of the new LAND.
        RoadToPort x = told();
        Checks.land(x, OTHER);
        c.is("a way", x.way(2, 1), 3);
        c.is("its PLACES", x.wayAt(1), 0);
        c.is("no fourth", x.wayAt(3), -1);
        c.is("a cut", x.cut(0, 2), 1);
        c.is("its road", x.cutting(), 2);
        c.is("sent", x.sent(), 18);
        c.is("the second's port", x.sentTo(1), 0);
        c.is("of no third", x.sentTo(2), -1);
        c.is("an OATH", x.oath(0), 11);
        c.is("its first byte", x.byteAt(0), 'k');
    }

    private static void toldLastOverAnImage() {
        c.says("They are as kept in place k (the tape, and what other calls told last, stays; nothing can be undone)");
        RoadToPort x = new RoadToPort();
        x.image(1);
        Checks.land(x, OTHER);
        x.image(0);
        RoadToPort y = told();
        Map<String, Long> before = toldLast(y);
        y.image(0);
        stillTold("over image()", y, before);
        y.restore(0);
        stillTold("over restore()", y, before);
        Checks.land(y, OTHER);
        y.restore(0);
        stillTold("over a LAND and restore()", y, before);
        y.land();
        y.image(1);
        y.restore(0);
        y.restore(1);
        stillTold("over an empty image", y, before);
        // Those told ahead of the image do not come back by it.
        c.is("brought back", x.restore(0), true);
        x.way(1, 0);
        x.cut(1, 0);
        x.sent();
        x.oath(0);
        x.swear(0, 0, 9);
        x.plan(0, 0);
        Checks.book(x, "day 1;", 0);
        x.image(0);
        x.way(0, 0);
        x.cut(2, 0);
        x.oath(1);
        x.sent();
        Checks.book(x, "day 2;bob slips;", 0);
        before = toldLast(x);
        x.restore(0);
        stillTold("the later ones stay", x, before);
        c.is("the later OATH", x.byteAt(0), 'b');
        c.is("the later BOOK", x.told(2), 2);
    }

    private static void theFault() {
        c.says("The kind of the FAULT of the latest land(), book() or sentence() (a book() of -1000 leaves it); 0 without one and ahead"
                + " of any.");
        RoadToPort x = new RoadToPort();
        c.is("ahead of any", x.fault(), 0);
        x.book(5);
        c.is("behind -1000, ahead of any", x.fault(), 0);
        String[] lands = {"x", "port p 13 1 1;", "church a;church a;", "inn a;inn b;inn c;inn d;inn e;inn f;inn g;inn h;inn i;inn j;inn k;"};
        for (int kind = 1; kind <= 4; kind++) {
            x.image(0);
            Checks.land(x, lands[kind - 1]);
            c.is("of a LAND", x.fault(), kind);
            x.book(5);
            c.is("a book() of -1000 leaves it", x.fault(), kind);
            x.image(0);
            x.restore(0);
            x.days(1, 1);
            x.undo();
            x.turned(0);
            x.oath(0);
            c.is("other calls leave it", x.fault(), kind);
            Checks.land(x, "church a;");
            c.is("a LAND without one", x.fault(), 0);
            Checks.land(x, lands[kind - 1]);
            Checks.book(x, "day 1;", 0);
            c.is("a BOOK without one", x.fault(), 0);
            Checks.land(x, lands[kind - 1]);
            Checks.sentence(x, "safe");
            c.is("a SENTENCE without one", x.fault(), 0);
        }
        String[] books = {"day", "day 0;", "tom slips;", "day 1;".repeat(41)};
        String[] sentences = {"day", "at x", "at x", "kin" + " or kin".repeat(20)};
        for (int kind = 1; kind <= 4; kind++) {
            Checks.book(x, books[kind - 1], 1);
            c.is("of a BOOK", x.fault(), kind);
            x.book(-1);
            c.is("a book() of -1000 leaves it", x.fault(), kind);
            Checks.book(x, "day 1;tom", 1);
            c.is("of the latest BOOK", x.fault(), 3);
            Checks.sentence(x, sentences[kind - 1]);
            c.is("of a SENTENCE", x.fault(), kind == 2 ? 3 : kind);
        }
        Checks.land(x, "");
        c.is("an empty LAND has none", x.fault(), 0);
        Checks.sentence(x, "");
        c.is("an empty SENTENCE has one", x.fault(), 1);
        Checks.book(x, "", 0);
        c.is("an empty BOOK has none", x.fault(), 0);
        Checks.book(Checks.landOf("church a;man t a 1 1;"), "t slips;", 0);
        c.is("a WRONG LINE is no FAULT", x.fault(), 0);
    }

    private static void theTape() {
        c.says("empty then, here and below, whatever is answered, but where 'the tape stays' is told");
        RoadToPort x = Stage.six();
        String[] texts = {"church a;", "x", "safe", "day 1;", "\1\2", ""};
        for (String text : texts) {
            Checks.tell(x, text);
            x.turned(1);
            c.is("behind turned() of \"" + text + "\"", x.count(4), 0);
            Checks.tell(x, text);
            x.turned(9);
            c.is("behind turned() of nobody", x.count(4), 0);
            Checks.tell(x, text);
            x.sentence();
            c.is("behind sentence() of \"" + text + "\"", x.count(4), 0);
            Checks.tell(x, text);
            x.book(0);
            c.is("behind book(0) of \"" + text + "\"", x.count(4), 0);
            Checks.tell(x, text);
            x.book(2);
            c.is("behind book(2) of \"" + text + "\"", x.count(4), text.length());
            x.book(1);
            c.is("behind book(1) of \"" + text + "\"", x.count(4), 0);
        }
        for (String text : texts) {
            Checks.tell(x, text);
            x.land();
            c.is("behind land() of \"" + text + "\"", x.count(4), 0);
        }
        // No other call takes it.
        x = told();
        Checks.tell(x, "church a;");
        x.image(0);
        x.restore(0);
        x.days(1, 1);
        x.undo();
        x.get(0, 1);
        x.order(0, 1);
        x.slip(0);
        x.sent();
        x.cut(0, 1);
        x.way(0, 1);
        x.odds(1, 2, 3);
        x.oath(0);
        x.said(-1);
        c.is("it stays", x.count(4), 9);
        c.is("the LAND on it", x.land(), 1);
    }

    // ---- images ----

    private static RoadToPort withSentence() {
        RoadToPort x = Stage.six();
        Checks.sentence(x, "coin = 7 and (to p or not kin) and number > 1");
        return x;
    }

    private static void kept() {
        c.says("LAND, all that is so and the SENTENCE are kept in place k (0, 1)");
        for (int k = 0; k < 2; k++) {
            RoadToPort x = withSentence();
            c.is("image(" + k + ")", x.image(k), true);
            c.is("another LAND", Checks.land(x, OTHER), 8);
            Checks.sentence(x, "kin or miles < 3 or at abbey");
            x.swear(0, 0, 9);
            x.days(2, 2);
            c.is("restore(" + k + ")", x.restore(k), true);
            alike("brought back from " + k, x, withSentence());
        }
        // Acts and DAYS of the LAND brought back are as those of one that never went.
        RoadToPort x = withSentence();
        RoadToPort y = withSentence();
        x.image(0);
        Checks.land(x, OTHER);
        x.restore(0);
        for (RoadToPort z : new RoadToPort[] {x, y}) {
            z.order(1, 2);
            z.swear(0, Stage.PORT, 9);
            z.get(2, 60);
            z.days(2, 77);
        }
        alike("acts and DAYS", x, y);
        // Fords and kin of it, too.
        String ford = "church a;inn b;port p 6 0 1;road a b 2 6;road b p 9 5 ford;man t a 2 0;man u a 3 0;kin u;";
        x = Checks.landOf(ford);
        y = Checks.landOf(ford);
        x.image(1);
        Checks.land(x, OTHER);
        x.swear(0, 0, 9);
        x.restore(1);
        for (RoadToPort z : new RoadToPort[] {x, y}) {
            z.swear(0, 2, 40);
            z.swear(1, 2, 40);
        }
        for (int seed = 0; seed < 4; seed++) {
            x.days(1, seed);
            y.days(1, seed);
            for (int what = 0; what < 14; what++) {
                c.is("man(0, " + what + ") with fords", x.man(0, what), y.man(0, what));
                c.is("man(1, " + what + ") with fords", x.man(1, what), y.man(1, what));
            }
        }
        c.is("PLAN", x.man(1, 0) == 1, y.man(1, 0) == 1);
        c.is("NAMES", Checks.book(x, "t gets 1;u gets 1;", 0), Checks.book(y, "t gets 1;u gets 1;", 0));
        c.is("PLACES", Checks.sentence(x, "at b or to p"), 2);
        c.is("SENT", x.sent(), y.sent());
        c.is("CUT", x.cut(0, 2), 1);
    }

    private static void keptAsItWas() {
        c.says("LAND, all that is so and the SENTENCE are kept in place k (0, 1)");
        // What is done later does not change what is kept, however often it is brought back.
        RoadToPort x = withSentence();
        x.image(0);
        for (int k = 0; k < 3; k++) {
            x.swear(0, Stage.PORT, 9);
            x.get(2, 99);
            x.slip(1);
            x.days(9, k);
            Checks.sentence(x, "slain");
            c.is("as it goes on", x.now(0), 11);
            x.restore(0);
            c.is("the DAY", x.now(0), 2);
            c.is("the SENTENCE", x.said(0), 2);
        }
        alike("brought back thrice", x, withSentence());
        // What is kept last in a place is there alone.
        RoadToPort y = withSentence();
        y.image(0);
        y.days(5, 1);
        Checks.sentence(y, "slain");
        y.image(0);
        y.days(5, 1);
        y.restore(0);
        c.is("the later DAY", y.now(0), 7);
        c.is("the later SENTENCE", y.said(0), 5);
        // An image of what was brought back.
        y.image(1);
        Checks.land(y, OTHER);
        y.image(0);
        y.restore(1);
        c.is("the DAY from the other place", y.now(0), 7);
        c.is("the SENTENCE from the other place", y.said(0), 5);
        y.restore(0);
        c.is("the other LAND", y.count(0), 3);
    }

    private static void keptWhole() {
        c.says("LAND, all that is so and the SENTENCE are kept in place k (0, 1)");
        // As much as there may be, to the last PLACE, road, MAN and ONE.
        StringBuilder text = new StringBuilder("church a;inn b;inn d;inn e;inn f;inn g;inn h;church i;inn j;port z 12 9 6;");
        String[] two = {"a b", "a d", "a e", "b d", "b e", "d e", "b f", "f g", "g h", "h i", "i j", "j z", "f j", "g j", "h j", "i z"};
        for (int r = 0; r < 16; r++) {
            text.append("road ").append(two[r]).append(' ').append(r + 1).append(' ').append(r % 12).append(r == 11 ? " ford;" : ";");
        }
        for (char k = 'a'; k < 'g'; k++) {
            text.append("man m").append(k).append(k == 'f' ? " i " : " a ").append("7 ").append(k - 'a').append(';');
        }
        text.append("kin mf;");
        String ones = "kin" + " or slain".repeat(18) + " and number = 5";
        RoadToPort x = Checks.landOf(text.toString());
        c.is("20 ONES", Checks.sentence(x, ones), 20);
        x.swear(5, 9, 30);
        x.order(5, 6);
        x.image(0);
        Checks.land(x, OTHER);
        Checks.sentence(x, "safe or safe");
        x.swear(0, 0, 9);
        x.days(9, 9);
        x.restore(0);
        RoadToPort y = Checks.landOf(text.toString());
        c.is("the SENTENCE", x.said(0), 5);
        c.is("how many", x.said(-1), 1);
        for (int what = 0; what < 4; what++) {
            c.is("the last PLACE: " + what, x.place(9, what), y.place(9, what));
            c.is("how many: " + what, x.count(what), y.count(what));
        }
        for (int what = 0; what < 3; what++) {
            c.is("the last road: " + what, x.road(7, 9, what), y.road(7, 9, what));
            c.is("the ford: " + what, x.road(8, 9, what), y.road(8, 9, what));
        }
        for (int p = 0; p < 9; p++) {
            c.is("FAR from the last PLACE to " + p, x.far(9, p), y.far(9, p));
            c.is("worst from the last PLACE to " + p, x.worst(9, p), y.worst(9, p));
            c.is("worst to the last PLACE from " + p, x.worst(p, 9), y.worst(p, 9));
            c.is("a WAY from the last PLACE to " + p, x.way(9, p), y.way(9, p));
            for (int k = 0; k < 4; k++) {
                c.is("its PLACE " + k, x.wayAt(k), y.wayAt(k));
            }
        }
        c.is("the last MAN: COIN", x.man(5, 2), 5);
        c.is("the last MAN: kin", x.man(5, 3), 1);
        c.is("the last MAN: how", x.man(5, 0), 1);
        c.is("the last MAN: church", x.man(5, 6), 7);
        c.is("the last MAN: MILES of his WAY", x.man(5, 8), 16);
        c.is("the last MAN: DAYS", x.man(5, 9), 30);
        c.is("the last MAN: what he ordered", x.man(5, 10), 6);
        c.is("the last MAN's NAME", x.oath(5), 10);
        c.is("the last MAN's last letter", x.byteAt(1), 'f');
        c.is("the last PLACE's NAME", x.byteAt(6), 'z');
        c.is("those NAMES are known", Checks.book(x, "mf orders 5;ma swears z 40;", 0), -1);
    }

    private static void twoPlaces() {
        c.says("in place k (0, 1)");
        RoadToPort x = withSentence();
        x.image(0);
        Checks.land(x, OTHER);
        x.days(3, 1);
        x.image(1);
        for (int k = 0; k < 2; k++) {
            x.restore(0);
            c.is("the first", x.count(0), 6);
            c.is("its DAY", x.now(0), 2);
            c.is("its SENTENCE", x.said(-1), 4);
            x.restore(1);
            c.is("the second", x.count(0), 3);
            c.is("its DAY", x.now(0), 3);
            c.is("it has no SENTENCE", x.said(-1), -1);
        }
    }

    private static void keptOfNothing() {
        c.says("`RoadToPort()`: An empty LAND; an empty tape.");
        RoadToPort x = new RoadToPort();
        c.is("an image of nothing", x.image(0), true);
        Checks.land(x, Stage.LAND);
        Checks.sentence(x, "safe");
        c.is("brought back", x.restore(0), true);
        alike("nothing", x, new RoadToPort());
        c.is("no SENTENCE", x.said(-1), -1);
        c.is("nobody", x.sent(), 0);
        // An image without a SENTENCE takes the SENTENCE away.
        RoadToPort y = Stage.six();
        y.image(1);
        Checks.sentence(y, "safe");
        c.is("a SENTENCE", y.said(-1), 1);
        y.restore(1);
        c.is("no SENTENCE", y.said(-1), -1);
        c.is("none such", y.said(0), -1);
        // One with a SENTENCE brings it back over a FAULT and over another one.
        y = withSentence();
        y.image(1);
        Checks.sentence(y, "safe or walks or waits or sailed or outlaw or slain or not kin or number > 7");
        Checks.sentence(y, "safe or");
        y.restore(1);
        c.is("who", y.said(0), 2);
        c.is("how many", y.said(-1), 4);
    }

    private static void nothingCanBeUndone() {
        c.says("nothing can be undone): true");
        RoadToPort x = Stage.six();
        x.get(0, 1);
        x.image(0);
        c.is("image() leaves what can be undone", x.undo(), 1);
        x.get(0, 1);
        x.get(0, 1);
        c.is("brought back", x.restore(0), true);
        c.is("nothing can be undone", x.undo(), -1);
        c.is("as it was kept", x.man(0, 2), 8);
        x.get(0, 1);
        c.is("a later act can", x.undo(), 0);
        x.get(0, 1);
        c.is("of nothing that is kept", x.restore(1), false);
        c.is("no such place", x.restore(2), false);
        c.is("the act can be undone", x.undo(), 0);
        for (int k = 0; k < 12; k++) {
            x.get(0, 1);
        }
        x.restore(0);
        c.is("not one of twelve", x.undo(), -1);
        for (int k = 0; k < 9; k++) {
            x.get(0, 1);
        }
        c.is("eight of nine", x.undo(), 7);
    }

    private static void imagesAndLands() {
        c.says("the LAND before stays");
        RoadToPort x = Stage.six();
        x.image(0);
        for (int k = 0; k < 3; k++) {
            Checks.land(x, OTHER);
            Checks.land(x, "church a;x");
            c.is("the LAND before", x.count(0), 3);
            c.is("its first MAN", x.oath(0), 11);
        }
        c.is("an image is kept over LANDS", x.restore(0), true);
        alike("over LANDS", x, Stage.six());
    }
}
