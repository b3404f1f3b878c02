import java.util.NoSuchElementException;
import java.util.Random;
import java.util.TreeMap;

/** Runs of random calls, the class held against the model after each one. */
public final class RandomRunsTest {
    private interface Call {
        long answer();
    }

    private static final long THROWS = Long.MIN_VALUE;
    private static int wrong = 0;
    private static final TreeMap<String, Integer> seen = new TreeMap<>();

    private final Random random;
    private final Texts texts;
    private final RoadToPort x = new RoadToPort();
    private final Model y = new Model();
    private final int run;
    private int calls = 0;
    private boolean fine = true;
    private final StringBuilder log = new StringBuilder();

    private RandomRunsTest(int run) {
        this.run = run;
        random = new Random(run * 7919L + 5);
        texts = new Texts(random);
    }

    public static void main(String[] args) {
        int runs = args.length > 0 ? Integer.parseInt(args[0]) : 1500;
        int first = args.length > 1 ? Integer.parseInt(args[1]) : 0;
        for (int run = first; run < first + runs && wrong < 5; run++) {
            new RandomRunsTest(run).go();
        }
        if (args.length > 2) {
            seen.forEach((k, v) -> System.out.println(k + " " + v));
        }
        System.out.println(wrong == 0 ? "all random runs are as the model's" : wrong + " random runs are not as the model's");
        if (wrong != 0) {
            System.exit(1);
        }
    }

    private static long answer(Call call) {
        try {
            return call.answer();
        } catch (NoSuchElementException e) {
            return THROWS;
        }
    }

    private void due(String call, Call got, Call want) {
        if (!fine || calls >= 512) {
            return;
        }
        calls++;
        long g = 0;
        String thrown = "";
        try {
            g = answer(got);
        } catch (RuntimeException e) {
            thrown = " " + e;
        }
        long w = answer(want);
        log.append(call).append(" -> ").append(w).append('\n');
        String name = call.substring(0, call.indexOf('('));
        seen.merge(name + " " + (w == THROWS ? "throws" : w < -1 ? "fault" : w == -1 ? "NONE" : w == 0 ? "0" : "more"), 1, Integer::sum);
        if (g != w || !thrown.isEmpty()) {
            fine = false;
            wrong++;
            System.out.println(log);
            System.out.println("run " + run + ": " + call + " answered " + g + thrown + ", due is " + w);
        }
    }

    private static long bit(boolean b) {
        return b ? 1 : 0;
    }

    private int any(int low, int high) {
        return low + random.nextInt(high - low + 1);
    }

    private int man() {
        return random.nextInt(12) == 0 ? any(-2, 7) : random.nextInt(Math.max(1, y.world.men.size()));
    }

    private int place() {
        return random.nextInt(12) == 0 ? any(-2, 11) : random.nextInt(Math.max(1, y.world.country.places.size()));
    }

    private int port() {
        int p = place();
        for (int k = 0; k < 5 && y.place(p, 0) != 2; k++) {
            p = place();
        }
        return p;
    }

    private void tell(String text) {
        String all = text.substring(0, Math.min(text.length(), 940));
        for (int i = 0; i < all.length(); i += 20) {
            int[] n = new int[5];
            for (int k = 0; k < 20; k++) {
                n[k / 4] = n[k / 4] << 8 | (i + k < all.length() ? all.charAt(i + k) : random.nextInt(256));
            }
            due("feed(" + n[0] + ", " + n[1] + ", " + n[2] + ", " + n[3] + ", " + n[4] + ")",
                    () -> x.feed(n[0], n[1], n[2], n[3], n[4]), () -> y.feed(n));
        }
        end(all.length());
    }

    private void end(int n) {
        due("end(" + n + ")", () -> bit(x.end(n)), () -> bit(y.end(n)));
    }

    private void landNow() {
        String text = texts.land();
        log.append("  ").append(text.replace("\n", "\\n")).append('\n');
        tell(text);
        due("land()", () -> x.land(), () -> y.land());
        toldLast();
    }

    /** Mostly a MAN who WALKS, if there is one. */
    private int walker() {
        int m = man();
        for (int k = 0; k < 10 && y.hasMan(m) && y.man(m, 0) != 1; k++) {
            m = man();
        }
        return m;
    }

    private void go() {
        // Where the tape is fed without a text, later texts begin with what is on it.
        for (int k = 0; k < 10 && y.world.men.isEmpty(); k++) {
            landNow();
        }
        int style = random.nextInt(4);
        while (fine && calls < 512) {
            int kind = random.nextInt(100);
            if (random.nextInt(250) == 0) {
                landNow();
            } else if (random.nextInt(250) == 0) {
                due("land()", x::land, y::land);
                toldLast();
            } else if (kind < 24) {
                act(style);
            } else if (kind < 30) {
                sayings();
            } else if (kind < 80) {
                look();
            } else if (kind < 96) {
                ask();
            } else {
                keep();
            }
            if (random.nextInt(3) == 0) {
                due("fault()", x::fault, y::fault);
                int w = any(0, 6);
                due("now(" + w + ")", () -> x.now(w), () -> y.now(w));
            }
        }
    }

    private void act(int style) {
        int m = man();
        int p = port();
        switch (random.nextInt(style == 3 ? 14 : 9)) {
            case 0, 1, 2 -> {
                int d = random.nextInt(15) == 0 ? any(-1, 42) : random.nextBoolean() ? any(1, 12) : any(1, 40);
                due("swear(" + m + ", " + p + ", " + d + ")", () -> x.swear(m, p, d), () -> y.swear(m, p, d));
            }
            case 3 -> {
                int n = random.nextInt(4) == 0 ? 0 : any(-1, random.nextBoolean() ? 21 : 4);
                due("order(" + m + ", " + n + ")", () -> x.order(m, n), () -> y.order(m, n));
            }
            case 4 -> {
                if (random.nextInt(4) == 0) {
                    due("slip(" + m + ")", () -> x.slip(m), () -> y.slip(m));
                }
            }
            case 5 -> due("enter(" + m + ")", () -> x.enter(m), () -> y.enter(m));
            case 6 -> {
                int n = random.nextInt(8) == 0 ? any(-1, 101) : any(1, 99);
                due("get(" + m + ", " + n + ")", () -> x.get(m, n), () -> y.get(m, n));
            }
            default -> {
                int n = style == 3 ? any(20, 31) : random.nextInt(10) == 0 ? any(-1, 31) : any(1, 2);
                int seed = random.nextInt();
                due("days(" + n + ", " + seed + ")", () -> x.days(n, seed), () -> y.days(n, seed));
            }
        }
    }

    private void sayings() {
        if (random.nextInt(10) == 0) {
            tell("x".repeat(any(0, 50)));
        }
        if (random.nextBoolean()) {
            String text = texts.book(y.world.country);
            log.append("  ").append(text.replace("\n", "\\n")).append('\n');
            tell(text);
            int lives = random.nextInt(12) == 0 ? any(-2, 3) : any(0, 1);
            due("book(" + lives + ")", () -> x.book(lives), () -> y.book(lives));
            for (int w = -1; w < 5; w++) {
                int what = w;
                due("told(" + what + ")", () -> x.told(what), () -> y.told(what));
            }
        } else {
            String text = texts.sentence(y.world.country);
            log.append("  ").append(text.replace("\n", "\\n")).append('\n');
            tell(text);
            due("sentence()", x::sentence, y::sentence);
            saidOf();
        }
    }

    private void saidOf() {
        for (int k = -2; k < 4; k++) {
            int kth = k;
            due("said(" + kth + ")", () -> x.said(kth), () -> y.said(kth));
        }
    }

    private void look() {
        int m = man();
        int p = place();
        int q = place();
        int w = random.nextInt(20) == 0 ? any(-2, 15) : any(0, 13);
        switch (random.nextInt(12)) {
            case 0 -> due("place(" + p + ", " + w % 6 + ")", () -> x.place(p, w % 6), () -> y.place(p, w % 6));
            case 1 -> due("place(" + p + ", 4)", () -> x.place(p, 4), () -> y.place(p, 4));
            case 2 -> due("road(" + p + ", " + q + ", " + w % 4 + ")", () -> x.road(p, q, w % 4), () -> y.road(p, q, w % 4));
            case 3, 4, 5, 6 -> due("man(" + m + ", " + w + ")", () -> x.man(m, w), () -> y.man(m, w));
            case 7 -> due("now(" + (w - 2) + ")", () -> x.now(w - 2), () -> y.now(w - 2));
            case 8 -> due("count(" + (w % 6) + ")", () -> x.count(w % 6), () -> y.count(w % 6));
            case 9 -> due("there(" + m + ")", () -> x.there(m), () -> y.there(m));
            case 10 -> {
                due("oath(" + m + ")", () -> x.oath(m), () -> y.oath(m));
                for (int k = 0; k < 3; k++) {
                    int i = any(-1, 24);
                    due("byteAt(" + i + ")", () -> x.byteAt(i), () -> y.byteAt(i));
                }
            }
            default -> saidOf();
        }
    }

    private void ask() {
        int m = man();
        int p = place();
        int q = place();
        switch (random.nextInt(9)) {
            case 0 -> {
                due("far(" + p + ", " + q + ")", () -> x.far(p, q), () -> y.far(p, q));
                due("way(" + p + ", " + q + ")", () -> x.way(p, q), () -> y.way(p, q));
                for (int k = -1; k < 6; k++) {
                    int kth = k;
                    due("wayAt(" + kth + ")", () -> x.wayAt(kth), () -> y.wayAt(kth));
                }
            }
            case 1, 2 -> plan(walker());
            case 3 -> {
                due("sent()", x::sent, y::sent);
                sentTo();
            }
            case 4 -> {
                due("cut(" + p + ", " + q + ")", () -> x.cut(p, q), () -> y.cut(p, q));
                due("cutting()", x::cutting, y::cutting);
            }
            case 5 -> due("worst(" + p + ", " + q + ")", () -> x.worst(p, q), () -> y.worst(p, q));
            case 6 -> {
                int port = port();
                int n = any(-1, 9);
                int what = random.nextInt(8) == 0 ? any(-1, 2) : any(0, 1);
                due("ship(" + port + ", " + n + ", " + what + ")", () -> x.ship(port, n, what), () -> y.ship(port, n, what));
            }
            case 7 -> turned(walker());
            default -> {
                int n = random.nextInt(10) == 0 ? any(-1, 31) : any(1, 6);
                int seed = random.nextInt(5) == 0 ? Integer.MAX_VALUE : random.nextInt();
                due("odds(" + m + ", " + n + ", " + seed + ")", () -> x.odds(m, n, seed), () -> y.odds(m, n, seed));
            }
        }
    }

    private void sentTo() {
        for (int k = -1; k < 7; k++) {
            int who = k;
            due("sentTo(" + who + ")", () -> x.sentTo(who), () -> y.sentTo(who));
        }
    }

    /** What other calls told last stays over another LAND. */
    private void toldLast() {
        sentTo();
        int k = any(0, 4);
        due("wayAt(" + k + ")", () -> x.wayAt(k), () -> y.wayAt(k));
        due("planAt(" + k + ")", () -> x.planAt(k), () -> y.planAt(k));
        due("byteAt(" + k + ")", () -> x.byteAt(k), () -> y.byteAt(k));
        due("told(" + k + ")", () -> x.told(k), () -> y.told(k));
        due("cutting()", x::cutting, y::cutting);
        due("least()", x::least, y::least);
        due("greatest()", x::greatest, y::greatest);
    }

    private void plan(int m) {
        int what = random.nextInt(12) == 0 ? any(-1, 2) : any(0, 1);
        due("plan(" + m + ", " + what + ")", () -> x.plan(m, what), () -> y.plan(m, what));
        if (random.nextBoolean()) {
            due("plan(" + m + ", " + (1 - what) + ")", () -> x.plan(m, 1 - what), () -> y.plan(m, 1 - what));
        }
        for (int k = -1; k < 13; k++) {
            int kth = k;
            due("planAt(" + kth + ")", () -> x.planAt(kth), () -> y.planAt(kth));
        }
    }

    private void turned(int m) {
        StringBuilder seenAt = new StringBuilder();
        int n = random.nextInt(8) == 0 ? any(0, 21) : any(2, 7);
        int all = y.hasMan(m) ? y.man(m, 8) : 9;
        int pace = y.hasMan(m) ? y.man(m, 1) : 3;
        int at = any(0, Math.min(all, 200));
        int turn = any(0, n);
        for (int k = 0; k < n; k++) {
            seenAt.append((char) Math.max(0, Math.min(at, random.nextInt(20) == 0 ? 255 : Math.min(all, 255))));
            at += (k < turn ? 1 : -1) * any(random.nextInt(10) == 0 ? -1 : 0, pace);
        }
        tell(seenAt.toString());
        due("turned(" + m + ")", () -> x.turned(m), () -> y.turned(m));
        due("count(4)", () -> x.count(4), () -> y.count(4));
        due("least()", x::least, y::least);
        due("greatest()", x::greatest, y::greatest);
    }

    private void keep() {
        int k = random.nextInt(10) == 0 ? any(-1, 2) : any(0, 1);
        switch (random.nextInt(6)) {
            case 0 -> due("image(" + k + ")", () -> bit(x.image(k)), () -> bit(y.image(k)));
            case 1 -> {
                due("restore(" + k + ")", () -> bit(x.restore(k)), () -> bit(y.restore(k)));
                toldLast();
            }
            case 2 -> end(random.nextInt(8) == 0 ? -1 : any(0, 30));
            default -> {
                for (int n = any(1, random.nextInt(6) == 0 ? 10 : 2); n > 0; n--) {
                    due("undo()", x::undo, y::undo);
                }
            }
        }
    }
}
