import java.math.BigInteger;
import java.nio.ByteBuffer;
import java.nio.charset.StandardCharsets;
import java.util.ArrayList;
import java.util.Arrays;
import java.util.HashMap;
import java.util.List;
import java.util.Map;
import java.util.NoSuchElementException;
import java.util.Set;
import java.util.TreeSet;

/** The document told once more, as slowly and plainly as can be: what the class answers is held against it. */
final class Model {
    static final int NONE = -1;
    static final Set<String> KEYS = Set.of("church", "inn", "port", "road", "ford", "man", "kin", "swears", "orders", "slips",
            "enters", "gets", "day", "or", "and", "not", "safe", "walks", "waits", "sailed", "outlaw", "slain", "to", "at",
            "coin", "days", "miles", "number");
    static final List<String> STATES = List.of("safe", "walks", "waits", "sailed", "outlaw", "slain");

    record Place(String name, int sort, int odds, int pay, int holds) { }

    record Road(int a, int b, int miles, int danger, boolean ford) {
        int other(int p) {
            return p == a ? b : p == b ? a : NONE;
        }
    }

    record Person(String name, int church, int pace, int coin) { }

    static final class Country {
        List<Place> places = new ArrayList<>();
        List<Road> roads = new ArrayList<>();
        List<Person> men = new ArrayList<>();
        Set<Integer> kin = new TreeSet<>();
        int lines;

        int place(String name) {
            for (int p = 0; p < places.size(); p++) {
                if (places.get(p).name.equals(name)) {
                    return p;
                }
            }
            return NONE;
        }

        int man(String name) {
            for (int m = 0; m < men.size(); m++) {
                if (men.get(m).name.equals(name)) {
                    return m;
                }
            }
            return NONE;
        }

        int road(int a, int b) {
            for (int r = 0; r < roads.size(); r++) {
                if (roads.get(r).other(a) == b) {
                    return r;
                }
            }
            return NONE;
        }

        Map<List<Integer>, List<Integer>> ways = new HashMap<>();

        /** All simple ways are walked; null if there is none. */
        List<Integer> way(int a, int b) {
            List<Integer> key = List.of(a, b);
            if (!ways.containsKey(key)) {
                List<Integer> path = new ArrayList<>(List.of(a));
                List<List<Integer>> best = new ArrayList<>();
                walk(path, b, best);
                ways.put(key, best.isEmpty() ? null : best.get(0));
            }
            return ways.get(key);
        }

        private void walk(List<Integer> path, int b, List<List<Integer>> best) {
            int at = path.get(path.size() - 1);
            if (at == b) {
                // Places are tried in their order, so of like ones the first found is the least.
                if (best.isEmpty() || miles(path) < miles(best.get(0))) {
                    best.clear();
                    best.add(new ArrayList<>(path));
                }
                return;
            }
            for (int p = 0; p < places.size(); p++) {
                if (road(at, p) != NONE && !path.contains(p)) {
                    path.add(p);
                    walk(path, b, best);
                    path.remove(path.size() - 1);
                }
            }
        }

        int miles(List<Integer> path) {
            int sum = 0;
            for (int k = 0; k + 1 < path.size(); k++) {
                sum += roads.get(road(path.get(k), path.get(k + 1))).miles;
            }
            return sum;
        }
    }

    static final class Man implements Cloneable {
        int how, coin, swore, port = NONE, church, gone, days, ordered, nights, waded, walked;
        List<Integer> way;

        Man copy() {
            try {
                return (Man) clone();
            } catch (CloneNotSupportedException e) {
                throw new AssertionError(e);
            }
        }
    }

    static final class World {
        Country country = new Country();
        List<Man> men = new ArrayList<>();
        int day;

        World copy() {
            World w = new World();
            w.country = country;
            w.day = day;
            for (Man m : men) {
                w.men.add(m.copy());
            }
            return w;
        }

        int bits(int how) {
            int bits = 0;
            for (int m = 0; m < men.size(); m++) {
                bits |= men.get(m).how == how ? 1 << m : 0;
            }
            return bits;
        }

        /** The place at a milestone of a man's way, or NONE between two. */
        int placeAt(Man man, int milestone) {
            for (int k = 1; k <= man.way.size(); k++) {
                if (country.miles(man.way.subList(0, k)) == milestone) {
                    return man.way.get(k - 1);
                }
            }
            return NONE;
        }

        /** The road on which the mile behind a milestone is. */
        Road roadBehind(Man man, int milestone) {
            for (int k = 1; k < man.way.size(); k++) {
                if (country.miles(man.way.subList(0, k + 1)) > milestone) {
                    return country.roads.get(country.road(man.way.get(k - 1), man.way.get(k)));
                }
            }
            throw new AssertionError();
        }

        int all(Man man) {
            return man.how == 0 ? 0 : country.miles(man.way);
        }

        int at(int m) {
            Man man = men.get(m);
            return man.how == 0 ? man.church : man.how == 1 ? placeAt(man, man.gone) : man.how == 2 ? man.port : NONE;
        }

        int danger(int m, int milestone) {
            Man man = men.get(m);
            if (placeAt(man, milestone) != NONE) {
                return 0;
            }
            int danger = roadBehind(man, milestone).danger;
            return country.kin.contains(m) ? danger / 2 : danger;
        }

        int swear(int m, int p, int d) {
            Man man = men.get(m);
            if (man.how != 0) {
                return 1;
            }
            List<Integer> way = country.way(man.church, p);
            if (way == null) {
                return 2;
            }
            if (man.swore == 2) {
                return 3;
            }
            man.how = 1;
            man.way = way;
            man.swore++;
            man.port = p;
            man.gone = 0;
            man.days = d;
            man.nights = 0;
            man.ordered = country.men.get(m).pace;
            return 0;
        }

        int order(int m, int n) {
            Man man = men.get(m);
            int why = man.how != 1 ? 1 : n > country.men.get(m).pace ? 2 : n == man.ordered ? 3 : 0;
            if (why == 0) {
                man.ordered = n;
            }
            return why;
        }

        int slip(int m) {
            Man man = men.get(m);
            if (man.how != 1) {
                return 1;
            }
            man.how = 4;
            return 0;
        }

        int enter(int m) {
            Man man = men.get(m);
            if (man.how != 1) {
                return 1;
            }
            int p = at(m);
            if (p == NONE || country.places.get(p).sort != 0) {
                return 2;
            }
            man.how = 0;
            man.church = p;
            man.nights = 0;
            return 0;
        }

        int get(int m, int n) {
            Man man = men.get(m);
            if (man.how >= 3) {
                return 1;
            }
            man.coin = Math.min(999, man.coin + n);
            return 0;
        }

        int x;

        int draw(int n) {
            x = x * 1103515245 + 12345;
            return (x >>> 8) % n;
        }

        int days(int n, int seed) {
            x = seed;
            int went = 0;
            while (went < n && day < 400) {
                for (int m = 0; m < men.size(); m++) {
                    goes(m);
                }
                day++;
                went++;
            }
            return went;
        }

        private void goes(int m) {
            Man man = men.get(m);
            if (man.how == 2) {
                Place port = country.places.get(man.port);
                if (draw(12) < port.odds && man.coin >= port.pay) {
                    man.coin -= port.pay;
                    man.how = 3;
                } else {
                    man.waded++;
                }
                return;
            }
            if (man.how != 1) {
                return;
            }
            int n = Math.min(man.ordered, all(man) - man.gone);
            boolean ford = false;
            for (int k = 0; k < n; k++) {
                ford |= roadBehind(man, man.gone + k).ford;
            }
            if (!ford || draw(6) != 0) {
                if (n == 0) {
                    man.nights++;
                    if (man.nights == 2) {
                        man.how = 4;
                        return;
                    }
                } else {
                    man.nights = 0;
                    man.gone += n;
                    man.walked += n;
                }
            }
            if (man.gone == all(man)) {
                man.how = 2;
                return;
            }
            if (placeAt(man, man.gone) == NONE && draw(12) < danger(m, man.gone)) {
                man.how = 5;
                return;
            }
            man.days--;
            if (man.days == 0) {
                man.how = 4;
            }
        }
    }

    // ---- texts ----

    static final class Fault extends RuntimeException {
        private static final long serialVersionUID = 1L;
        final int kind;
        final int place;

        Fault(int kind, int place) {
            this.kind = kind;
            this.place = place;
        }
    }

    record Token(String text, int place) { }

    /** The tokens of a text; "?" is none, "" the end (a text that is too long ends where it may not). */
    static List<Token> tokens(String text, int most) {
        List<Token> all = new ArrayList<>();
        int i = 0;
        while (i < text.length() && i < most) {
            int j = i;
            while (j < text.length() && String.valueOf(text.charAt(j)).matches("[a-z0-9]")) {
                j++;
            }
            if (j > i) {
                String run = text.substring(i, j);
                all.add(new Token(run.matches("[a-z]{1,7}|[0-9]{1,3}") ? run : "?", i));
                i = j;
            } else {
                String sign = text.substring(i, i + 1);
                if (";<=>()".contains(sign)) {
                    all.add(new Token(sign, i));
                } else if (!sign.equals(" ") && !sign.equals("\n")) {
                    all.add(new Token("?", i));
                }
                i++;
            }
        }
        all.add(text.length() > most ? new Token("?", most) : new Token("", text.length()));
        return all;
    }

    final class Text {
        final List<Token> all;
        final Country country;
        int k = 0;

        Text(String text, int most, Country country) {
            all = tokens(text, most);
            this.country = country;
        }

        String look() {
            return all.get(k).text;
        }

        Fault bad(int kind) {
            return new Fault(kind, all.get(k).place);
        }

        void must(String text) {
            if (!look().equals(text)) {
                throw bad(1);
            }
            k++;
        }

        int number(int low, int high) {
            if (!look().matches("[0-9]+")) {
                throw bad(1);
            }
            int n = Integer.parseInt(look());
            if (n < low || n > high) {
                throw bad(2);
            }
            k++;
            return n;
        }

        String name() {
            if (!look().matches("[a-z]+") || KEYS.contains(look())) {
                throw bad(1);
            }
            return look();
        }

        String fresh() {
            String name = name();
            if (country.place(name) != NONE || country.man(name) != NONE) {
                throw bad(3);
            }
            k++;
            return name;
        }

        int known(int number, boolean fine) {
            if (number == NONE || !fine) {
                throw bad(3);
            }
            k++;
            return number;
        }
    }

    Country readLand(String text) {
        Country c = new Country();
        Text t = new Text(text, 900, c);
        while (!t.look().isEmpty()) {
            String what = t.look();
            if (!List.of("church", "inn", "port", "road", "man", "kin").contains(what)) {
                throw t.bad(1);
            }
            int sort = List.of("church", "inn", "port").indexOf(what);
            if (sort >= 0 && c.places.size() == 10 || what.equals("road") && c.roads.size() == 16
                    || what.equals("man") && c.men.size() == 6) {
                throw t.bad(4);
            }
            t.k++;
            if (sort == 2) {
                c.places.add(new Place(t.fresh(), 2, t.number(0, 12), t.number(0, 99), t.number(1, 6)));
            } else if (sort >= 0) {
                c.places.add(new Place(t.fresh(), sort, 0, 0, 0));
            } else if (what.equals("road")) {
                int a = t.known(c.place(t.name()), true);
                int b = c.place(t.name());
                t.known(b, b != a && c.road(a, b) == NONE);
                int miles = t.number(1, 30);
                int danger = t.number(0, 12);
                boolean ford = t.look().equals("ford");
                t.k += ford ? 1 : 0;
                c.roads.add(new Road(a, b, miles, danger, ford));
            } else if (what.equals("man")) {
                String name = t.fresh();
                int church = c.place(t.name());
                t.known(church, church != NONE && c.places.get(church).sort == 0);
                c.men.add(new Person(name, church, t.number(1, 20), t.number(0, 99)));
            } else {
                int m = c.man(t.name());
                c.kin.add(t.known(m, !c.kin.contains(m)));
            }
            t.must(";");
            c.lines++;
        }
        return c;
    }

    record Line(String act, int who, int where, int n) { }

    List<Line> readBook(String text) {
        Country c = world.country;
        Text t = new Text(text, 400, c);
        List<Line> lines = new ArrayList<>();
        while (!t.look().isEmpty()) {
            int who = NONE;
            if (!t.look().equals("day")) {
                who = c.man(t.name());
                if (who == NONE) {
                    throw t.bad(3);
                }
            }
            if (lines.size() == 40) {
                throw t.bad(4);
            }
            t.k++;
            String act = who == NONE ? "day" : t.look();
            int where = NONE;
            int n = 0;
            if (who != NONE) {
                if (!List.of("swears", "orders", "slips", "enters", "gets").contains(act)) {
                    throw t.bad(1);
                }
                t.k++;
            }
            switch (act) {
                case "day" -> n = t.number(1, 30);
                case "swears" -> {
                    int p = c.place(t.name());
                    where = t.known(p, p != NONE && c.places.get(p).sort == 2);
                    n = t.number(1, 40);
                }
                case "orders" -> n = t.number(0, 20);
                case "gets" -> n = t.number(1, 99);
                default -> { }
            }
            t.must(";");
            lines.add(new Line(act, who, where, n));
        }
        return lines;
    }

    interface Cond {
        boolean of(World w, int m);
    }

    final class SentenceText {
        final Text t;
        int ones = 0;

        SentenceText(String text) {
            t = new Text(text, 200, world.country);
        }

        Cond whole() {
            Cond c = cond(1);
            if (!t.look().isEmpty()) {
                throw t.bad(1);
            }
            return c;
        }

        Cond cond(int depth) {
            Cond left = all(depth);
            while (t.look().equals("or")) {
                t.k++;
                Cond l = left;
                Cond r = all(depth);
                left = (w, m) -> l.of(w, m) || r.of(w, m);
            }
            return left;
        }

        Cond all(int depth) {
            Cond left = one(depth);
            while (t.look().equals("and")) {
                t.k++;
                Cond l = left;
                Cond r = one(depth);
                left = (w, m) -> l.of(w, m) && r.of(w, m);
            }
            return left;
        }

        Cond one(int depth) {
            String first = t.look();
            if (!STATES.contains(first)
                    && !List.of("not", "(", "kin", "to", "at", "coin", "days", "miles", "number").contains(first)) {
                throw t.bad(1);
            }
            if (ones == 20 || depth == 9) {
                throw t.bad(4);
            }
            ones++;
            t.k++;
            if (first.equals("not")) {
                Cond c = one(depth + 1);
                return (w, m) -> !c.of(w, m);
            }
            if (first.equals("(")) {
                Cond c = cond(depth + 1);
                t.must(")");
                return c;
            }
            if (STATES.contains(first)) {
                return (w, m) -> w.men.get(m).how == STATES.indexOf(first);
            }
            if (first.equals("kin")) {
                return (w, m) -> w.country.kin.contains(m);
            }
            if (first.equals("to") || first.equals("at")) {
                int p = t.known(t.country.place(t.name()), true);
                return first.equals("to") ? (w, m) -> w.men.get(m).port == p : (w, m) -> w.at(m) == p;
            }
            String sign = t.look();
            if (!List.of("<", "=", ">").contains(sign)) {
                throw t.bad(1);
            }
            t.k++;
            int n = t.number(0, 999);
            return (w, m) -> {
                Man man = w.men.get(m);
                int v = switch (first) {
                    case "coin" -> man.coin;
                    case "days" -> man.how == 1 ? man.days : 0;
                    case "miles" -> man.walked;
                    default -> m;
                };
                return sign.equals("<") ? v < n : sign.equals("=") ? v == n : v > n;
            };
        }
    }

    // ---- the object ----

    World world = new World();
    Cond cond = null;
    StringBuilder tape = new StringBuilder();
    int fault = 0;
    List<World> undone = new ArrayList<>();
    List<Integer> latestWay = List.of();
    int[] latestPlan = {};
    Map<Integer, Integer> latestSent = Map.of();
    int latestCut = NONE;
    int least = NONE;
    int greatest = NONE;
    String latestOath = "";
    int[] verdict = null;
    World[] imageWorlds = new World[2];
    Cond[] imageConds = new Cond[2];

    int feed(int... numbers) {
        if (tape.length() + 20 > 940) {
            return NONE;
        }
        for (int n : numbers) {
            for (byte b : ByteBuffer.allocate(4).putInt(n).array()) {
                tape.append((char) (b & 255));
            }
        }
        return tape.length();
    }

    boolean end(int n) {
        if (n < 0 || n > tape.length()) {
            return false;
        }
        tape.setLength(n);
        return true;
    }

    private String takeTape() {
        String text = tape.toString();
        tape.setLength(0);
        return text;
    }

    int land() {
        Country c;
        try {
            c = readLand(takeTape());
        } catch (Fault f) {
            fault = f.kind;
            return -1 - f.place;
        }
        fault = 0;
        world = new World();
        world.country = c;
        for (Person p : c.men) {
            Man man = new Man();
            man.coin = p.coin;
            man.church = p.church;
            man.ordered = p.pace;
            world.men.add(man);
        }
        cond = null;
        undone.clear();
        return c.lines;
    }

    int fault() {
        return fault;
    }

    boolean hasPlace(int p) {
        return p >= 0 && p < world.country.places.size();
    }

    boolean hasMan(int m) {
        return m >= 0 && m < world.men.size();
    }

    int place(int p, int what) {
        if (!hasPlace(p)) {
            return NONE;
        }
        Place place = world.country.places.get(p);
        int bits = 0;
        for (int m = 0; m < world.men.size(); m++) {
            bits |= world.at(m) == p ? 1 << m : 0;
        }
        return switch (what) {
            case 0 -> place.sort;
            case 1 -> place.odds;
            case 2 -> place.pay;
            case 3 -> place.holds;
            case 4 -> bits;
            default -> NONE;
        };
    }

    int road(int a, int b, int what) {
        if (!hasPlace(a) || !hasPlace(b) || world.country.road(a, b) == NONE) {
            return NONE;
        }
        Road r = world.country.roads.get(world.country.road(a, b));
        return what == 0 ? r.miles : what == 1 ? r.danger : what == 2 ? (r.ford ? 1 : 0) : NONE;
    }

    int man(int m, int what) {
        if (!hasMan(m)) {
            throw new NoSuchElementException();
        }
        Man man = world.men.get(m);
        return switch (what) {
            case 0 -> man.how;
            case 1 -> world.country.men.get(m).pace;
            case 2 -> man.coin;
            case 3 -> world.country.kin.contains(m) ? 1 : 0;
            case 4 -> man.swore;
            case 5 -> man.port;
            case 6 -> man.church;
            case 7 -> man.how == 0 ? 0 : man.gone;
            case 8 -> world.all(man);
            case 9 -> man.how == 1 ? man.days : 0;
            case 10 -> man.ordered;
            case 11 -> man.nights;
            case 12 -> man.waded;
            case 13 -> man.walked;
            default -> throw new NoSuchElementException();
        };
    }

    int now(int what) {
        return what == 0 ? world.day : what >= 1 && what <= 6 ? world.bits(what - 1) : NONE;
    }

    private int done(World before, boolean was, int answer) {
        if (was) {
            undone.add(before);
            if (undone.size() > 8) {
                undone.remove(0);
            }
        }
        return answer;
    }

    int swear(int m, int p, int d) {
        if (!hasMan(m) || !hasPlace(p) || world.country.places.get(p).sort != 2 || d < 1 || d > 40) {
            return NONE;
        }
        World before = world.copy();
        int why = world.swear(m, p, d);
        return done(before, why == 0, why);
    }

    int order(int m, int n) {
        if (!hasMan(m) || n < 0 || n > 20) {
            return NONE;
        }
        World before = world.copy();
        int why = world.order(m, n);
        return done(before, why == 0, why);
    }

    int slip(int m) {
        if (!hasMan(m)) {
            return NONE;
        }
        World before = world.copy();
        int why = world.slip(m);
        return done(before, why == 0, why);
    }

    int enter(int m) {
        if (!hasMan(m)) {
            return NONE;
        }
        World before = world.copy();
        int why = world.enter(m);
        return done(before, why == 0, why);
    }

    int get(int m, int n) {
        if (!hasMan(m) || n < 1 || n > 99) {
            return NONE;
        }
        World before = world.copy();
        int why = world.get(m, n);
        return done(before, why == 0, why);
    }

    int days(int n, int seed) {
        if (n < 1 || n > 30) {
            return NONE;
        }
        World before = world.copy();
        int went = world.days(n, seed);
        return done(before, went > 0, went);
    }

    int undo() {
        if (undone.isEmpty()) {
            return NONE;
        }
        world = undone.remove(undone.size() - 1);
        return undone.size();
    }

    int far(int a, int b) {
        if (!hasPlace(a) || !hasPlace(b) || world.country.way(a, b) == null) {
            return NONE;
        }
        return world.country.miles(world.country.way(a, b));
    }

    int way(int a, int b) {
        if (far(a, b) == NONE) {
            return NONE;
        }
        latestWay = world.country.way(a, b);
        return latestWay.size();
    }

    int wayAt(int k) {
        return k < 0 || k >= latestWay.size() ? NONE : latestWay.get(k);
    }

    /** The plan so far, and the best one: how many of 12 to the DAYS, and its MILES. */
    private final class Plans {
        final World w;
        final int m;
        final Man man;
        final int days;
        final int pace;
        BigInteger best = BigInteger.ONE.negate();
        int[] miles = null;
        final Map<List<Integer>, BigInteger> table = new HashMap<>();

        Plans(int m) {
            w = world;
            this.m = m;
            man = w.men.get(m);
            days = man.days;
            pace = w.country.men.get(m).pace;
        }

        /** Every plan is tried, in the order of their MILES. */
        void all(int[] sofar, int k, int at, BigInteger cases) {
            if (k == days || at == w.all(man)) {
                BigInteger c = at == w.all(man) ? cases.multiply(BigInteger.valueOf(12).pow(days - k)) : BigInteger.ZERO;
                if (c.compareTo(best) > 0) {
                    best = c;
                    miles = Arrays.copyOf(sofar, k);
                }
                return;
            }
            boolean mustGo = k == 0 ? man.nights > 0 : sofar[k - 1] == 0;
            for (int n = mustGo ? 1 : 0; n <= pace && at + n <= w.all(man); n++) {
                sofar[k] = n;
                all(sofar, k + 1, at + n, cases.multiply(BigInteger.valueOf(12 - w.danger(m, at + n))));
            }
        }

        BigInteger from(int k, int at, int mustGo) {
            if (at == w.all(man)) {
                return BigInteger.valueOf(12).pow(days - k);
            }
            if (k == days) {
                return BigInteger.ZERO;
            }
            List<Integer> key = List.of(k, at, mustGo);
            if (!table.containsKey(key)) {
                BigInteger most = BigInteger.ZERO;
                for (int n = mustGo; n <= pace && at + n <= w.all(man); n++) {
                    most = most.max(going(k, at, n));
                }
                table.put(key, most);
            }
            return table.get(key);
        }

        BigInteger going(int k, int at, int n) {
            return from(k + 1, at + n, n == 0 ? 1 : 0).multiply(BigInteger.valueOf(12 - w.danger(m, at + n)));
        }

        void byTable() {
            int mustGo = man.nights > 0 ? 1 : 0;
            best = from(0, man.gone, mustGo);
            miles = new int[days];
            int at = man.gone;
            for (int k = 0; k < days; k++) {
                if (at == w.all(man)) {
                    miles = Arrays.copyOf(miles, k);
                    return;
                }
                int n = mustGo;
                while (best.signum() > 0 && !going(k, at, n).equals(from(k, at, mustGo))) {
                    n++;
                }
                miles[k] = n;
                at += n;
                mustGo = n == 0 ? 1 : 0;
            }
        }
    }

    /** As many plans as can be tried one by one. */
    private static boolean isSmall(Plans plans) {
        return Math.pow(plans.pace + 1, plans.days) <= 20000;
    }

    long plan(int m, int what) {
        if (!hasMan(m) || what < 0 || what > 1 || world.men.get(m).how != 1 || world.men.get(m).days > 12) {
            throw new NoSuchElementException();
        }
        Plans plans = new Plans(m);
        if (isSmall(plans)) {
            plans.all(new int[12], 0, plans.man.gone, BigInteger.ONE);
        } else {
            plans.byTable();
        }
        latestPlan = plans.miles;
        BigInteger below = BigInteger.valueOf(12).pow(plans.days);
        BigInteger common = below.gcd(plans.best);
        return (what == 0 ? plans.best : below).divide(common).longValueExact();
    }

    int planAt(int k) {
        return k < 0 || k >= latestPlan.length ? NONE : latestPlan[k];
    }

    private int bestSent;
    private int[] bestPorts;

    private void send(int[] ports, int m, int sum) {
        if (m == world.men.size()) {
            if (bestPorts == null || sum < bestSent) {
                bestSent = sum;
                bestPorts = ports.clone();
            }
            return;
        }
        ports[m] = NONE;
        if (world.men.get(m).how != 0) {
            send(ports, m + 1, sum);
            return;
        }
        for (int p = 0; p < world.country.places.size(); p++) {
            Place place = world.country.places.get(p);
            int held = 0;
            for (int k = 0; k < m; k++) {
                held += ports[k] == p ? 1 : 0;
            }
            if (place.sort == 2 && held < place.holds && far(world.men.get(m).church, p) != NONE) {
                ports[m] = p;
                send(ports, m + 1, sum + far(world.men.get(m).church, p));
            }
        }
    }

    int sent() {
        bestPorts = null;
        send(new int[world.men.size()], 0, 0);
        if (bestPorts == null) {
            return NONE;
        }
        latestSent = new HashMap<>();
        for (int m = 0; m < bestPorts.length; m++) {
            latestSent.put(m, bestPorts[m]);
        }
        return bestSent;
    }

    int sentTo(int m) {
        return latestSent.getOrDefault(m, NONE);
    }

    private boolean joinedWithout(int a, int b, int cut) {
        Set<Integer> reached = new TreeSet<>(Set.of(a));
        for (int round = 0; round < 10; round++) {
            for (int r = 0; r < world.country.roads.size(); r++) {
                Road road = world.country.roads.get(r);
                if ((cut >> r & 1) == 0 && (reached.contains(road.a) || reached.contains(road.b))) {
                    reached.add(road.a);
                    reached.add(road.b);
                }
            }
        }
        return reached.contains(b);
    }

    int cut(int a, int b) {
        if (!hasPlace(a) || !hasPlace(b) || a == b) {
            return NONE;
        }
        for (int n = 0; n <= 4; n++) {
            for (int bits = 0; bits < 1 << world.country.roads.size(); bits++) {
                if (Integer.bitCount(bits) == n && !joinedWithout(a, b, bits)) {
                    latestCut = bits;
                    return n;
                }
            }
        }
        return NONE;
    }

    int cutting() {
        return latestCut;
    }

    int worst(int a, int b) {
        if (far(a, b) == NONE || a == b) {
            return NONE;
        }
        List<Integer> way = world.country.way(a, b);
        int worst = NONE;
        for (int k = 0; k + 1 < way.size(); k++) {
            int r = world.country.road(way.get(k), way.get(k + 1));
            if (worst == NONE || world.country.roads.get(r).danger > world.country.roads.get(worst).danger) {
                worst = r;
            }
        }
        return worst;
    }

    int ship(int p, int n, int what) {
        if (!hasPlace(p) || world.country.places.get(p).sort != 2 || n < 0 || n > 8 || what < 0 || what > 1) {
            throw new NoSuchElementException();
        }
        BigInteger below = BigInteger.valueOf(12).pow(n);
        BigInteger above = below.subtract(BigInteger.valueOf(12 - world.country.places.get(p).odds).pow(n));
        BigInteger common = above.gcd(below);
        return (what == 0 ? above : below).divide(common).intValueExact();
    }

    int turned(int m) {
        String seen = takeTape();
        if (!hasMan(m) || world.men.get(m).how != 1 || seen.length() < 2 || seen.length() > 20) {
            return NONE;
        }
        int all = world.all(world.men.get(m));
        int pace = world.country.men.get(m).pace;
        if (seen.chars().anyMatch(c -> c > all)) {
            return NONE;
        }
        Set<Integer> found = new TreeSet<>();
        for (int stone = 0; stone <= all; stone++) {
            for (int day = 0; day + 1 < seen.length(); day++) {
                boolean can = true;
                for (int k = 0; k + 1 < seen.length(); k++) {
                    int from = seen.charAt(k);
                    int to = seen.charAt(k + 1);
                    if (k == day) {
                        can &= stone >= from && stone >= to && stone - from + (stone - to) <= pace;
                    } else {
                        can &= Math.abs(from - to) <= pace && (k < day ? to >= from : to <= from);
                    }
                }
                if (can) {
                    found.add(stone);
                }
            }
        }
        if (!found.isEmpty()) {
            least = ((TreeSet<Integer>) found).first();
            greatest = ((TreeSet<Integer>) found).last();
        }
        return found.size();
    }

    int least() {
        return least;
    }

    int greatest() {
        return greatest;
    }

    int there(int m) {
        if (!hasMan(m) || world.men.get(m).how != 1) {
            return NONE;
        }
        Man man = world.men.get(m);
        int at = man.gone;
        for (int k = 0; k < man.days && world.day + k < 400; k++) {
            at += man.ordered;
            if (at >= world.all(man)) {
                return world.day + k;
            }
        }
        return NONE;
    }

    int oath(int m) {
        if (!hasMan(m)) {
            return NONE;
        }
        Man man = world.men.get(m);
        List<Place> places = world.country.places;
        latestOath = world.country.men.get(m).name + (man.how == 0 ? " in " + places.get(man.church).name
                : man.how == 1 ? " to " + places.get(man.port).name + " " + man.days : " " + STATES.get(man.how));
        return latestOath.length();
    }

    int byteAt(int i) {
        byte[] bytes = latestOath.getBytes(StandardCharsets.US_ASCII);
        return i < 0 || i >= bytes.length ? NONE : bytes[i];
    }

    int odds(int m, int n, int seed) {
        if (!hasMan(m) || n < 1 || n > 30) {
            return NONE;
        }
        int sailed = 0;
        for (int k = 0; k < n; k++) {
            World w = world.copy();
            w.days(30, seed + k);
            sailed += w.men.get(m).how == 3 ? 1 : 0;
        }
        return sailed;
    }

    int book(int lives) {
        if (lives != 0 && lives != 1) {
            return -1000;
        }
        List<Line> lines;
        try {
            lines = readBook(takeTape());
        } catch (Fault f) {
            fault = f.kind;
            return -2 - f.place;
        }
        fault = 0;
        World before = world.copy();
        int why = 0;
        int k = 0;
        for (; k < lines.size(); k++) {
            Line line = lines.get(k);
            why = switch (line.act) {
                case "swears" -> world.swear(line.who, line.where, line.n);
                case "orders" -> ten(1, world.order(line.who, line.n));
                case "slips" -> ten(2, world.slip(line.who));
                case "enters" -> ten(3, world.enter(line.who));
                case "gets" -> ten(4, world.get(line.who, line.n));
                default -> world.day + line.n > 400 ? 51 : world.days(line.n, line.n) * 0;
            };
            if (why != 0) {
                break;
            }
        }
        verdict = new int[] {why, k, world.day, world.bits(3)};
        if (lives == 0) {
            world = before;
        } else {
            done(before, k > 0, 0);
        }
        return why == 0 ? NONE : k;
    }

    private static int ten(int tens, int why) {
        return why == 0 ? 0 : tens * 10 + why;
    }

    int told(int what) {
        return verdict == null || what < 0 || what > 3 ? NONE : verdict[what];
    }

    int sentence() {
        SentenceText t = new SentenceText(takeTape());
        try {
            cond = t.whole();
        } catch (Fault f) {
            fault = f.kind;
            return -1 - f.place;
        }
        fault = 0;
        return t.ones;
    }

    int said(int k) {
        if (cond == null) {
            return NONE;
        }
        List<Integer> of = new ArrayList<>();
        for (int m = 0; m < world.men.size(); m++) {
            if (cond.of(world, m)) {
                of.add(m);
            }
        }
        return k == NONE ? of.size() : k < 0 || k >= of.size() ? NONE : of.get(k);
    }

    boolean image(int k) {
        if (k != 0 && k != 1) {
            return false;
        }
        imageWorlds[k] = world.copy();
        imageConds[k] = cond;
        return true;
    }

    boolean restore(int k) {
        if (k != 0 && k != 1 || imageWorlds[k] == null) {
            return false;
        }
        world = imageWorlds[k].copy();
        cond = imageConds[k];
        undone.clear();
        return true;
    }

    int count(int what) {
        return switch (what) {
            case 0 -> world.country.places.size();
            case 1 -> world.country.roads.size();
            case 2 -> world.men.size();
            case 3 -> (int) world.country.places.stream().filter(p -> p.sort == 2).count();
            case 4 -> tape.length();
            default -> NONE;
        };
    }
}
