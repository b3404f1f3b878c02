import java.util.Arrays;
import java.util.NoSuchElementException;

/** Men who fled to a church and walk to a port: the land, their days, and what can be asked of them. */
public final class RoadToPort {
    public static final int NONE = -1;

    private static final int MOST_PLACES = 10;
    private static final int MOST_ROADS = 16;
    private static final int MOST_MEN = 6;
    private static final int ALL_OVER = 400;
    private static final int MOST_IN_A_CALL = 30;
    /** A WAY has at most nine roads of at most thirty MILES. */
    private static final int MOST_MILES = 270;
    private static final int IMAGES = 2;

    private static final int SAFE = 0;
    private static final int WALKS = 1;
    private static final int WAITS = 2;
    private static final int SAILED = 3;
    private static final int OUTLAW = 4;
    private static final int SLAIN = 5;

    private static final int NO_TOKEN = 1;
    private static final int BAD_NUMBER = 2;
    private static final int BAD_NAME = 3;
    private static final int TOO_MANY = 4;

    /** Each with a blank behind it, numbered as below. */
    private static final String KEYWORDS = "church inn port road ford man kin swears orders slips enters gets day or and not safe walks waits sailed outlaw slain to at coin days miles number ";
    private static final int KEYS = 28;
    private static final int CHURCH = 0;
    private static final int INN = 1;
    private static final int PORT = 2;
    private static final int ROAD = 3;
    private static final int FORD = 4;
    private static final int MAN = 5;
    private static final int KIN = 6;
    private static final int SWEARS = 7;
    private static final int ORDERS = 8;
    private static final int SLIPS = 9;
    private static final int ENTERS = 10;
    private static final int GETS = 11;
    private static final int DAY = 12;
    private static final int OR = 13;
    private static final int AND = 14;
    private static final int NOT = 15;
    private static final int IS_SAFE = 16;
    private static final int IS_SLAIN = 21;
    private static final int TO = 22;
    private static final int AT = 23;
    private static final int COIN = 24;
    private static final int DAYS = 25;
    private static final int MILES = 26;
    private static final int NUMBER = 27;

    private final Reader reader = new Reader();
    private Land country = new Land();
    private Land spareCountry = new Land();
    private final Folk folk = new Folk();
    private final Folk trial = new Folk();
    private Phrase phrase = new Phrase();
    private Phrase sparePhrase = new Phrase();
    private final History history = new History();
    /** By their places; null where nothing is kept. */
    private final Land[] keptCountries = new Land[IMAGES];
    private final Folk[] keptFolks = new Folk[IMAGES];
    private final Phrase[] keptPhrases = new Phrase[IMAGES];
    private final Ledger ledger = new Ledger();
    private final Planner planner = new Planner();
    private final Sender sender = new Sender();
    private final Cutter cutter = new Cutter();
    private final Scribe scribe = new Scribe();
    private final Tracker tracker = new Tracker();
    private final int[] latestWay = new int[MOST_PLACES];
    private int latestWayLength = 0;

    public RoadToPort() {
    }

    // ---- the tape and the LAND ----

    public int feed(int a, int b, int c, int d, int e) {
        if (!reader.hasRoom(20)) {
            return NONE;
        }
        reader.take(a);
        reader.take(b);
        reader.take(c);
        reader.take(d);
        reader.take(e);
        return reader.length;
    }

    public boolean end(int n) {
        if (n < 0 || n > reader.length) {
            return false;
        }
        reader.length = n;
        return true;
    }

    public int land() {
        boolean fine = spareCountry.read(reader);
        reader.length = 0;
        if (!fine) {
            return -1 - reader.faultAt;
        }
        Land before = country;
        country = spareCountry;
        spareCountry = before;
        folk.settle(country);
        phrase.clear();
        history.clear();
        return country.lines;
    }

    public int fault() {
        return reader.fault;
    }

    public int count(int what) {
        switch (what) {
            case 0: return country.places;
            case 1: return country.roads;
            case 2: return country.men;
            case 3: return country.ports;
            case 4: return reader.length;
            default: return NONE;
        }
    }

    public int place(int p, int what) {
        if (!country.hasPlace(p) || what < 0 || what > 4) {
            return NONE;
        }
        return what == 4 ? folk.menAt(country.men, p) : country.ofPlace(p, what);
    }

    public int road(int a, int b, int what) {
        if (!country.hasPlace(a) || !country.hasPlace(b) || what < 0 || what > 2) {
            return NONE;
        }
        int r = country.roadBetween(a, b);
        return r == NONE ? NONE : country.ofRoad(r, Land.LENGTH + what);
    }

    // ---- the MEN ----

    public int man(int m, int what) throws NoSuchElementException {
        if (!country.hasMan(m) || what < 0 || what > 13) {
            throw new NoSuchElementException();
        }
        switch (what) {
            case 0: return folk.of(m, Folk.HOW);
            case 1: return country.ofMan(m, Land.PACE);
            case 2: return folk.of(m, Folk.PURSE);
            case 3: return country.ofMan(m, Land.HAS_KIN);
            case 4: return folk.of(m, Folk.SWORE);
            case 5: return folk.of(m, Folk.GOAL);
            case 6: return folk.of(m, Folk.HOME);
            case 7: return folk.of(m, Folk.GONE);
            case 8: return folk.allMiles(country, m);
            case 9: return folk.daysYet(m);
            case 10: return folk.of(m, Folk.ORDERED);
            case 11: return folk.of(m, Folk.NIGHTS);
            case 12: return folk.of(m, Folk.WADED);
            default: return folk.of(m, Folk.WALKED);
        }
    }

    public int now(int what) {
        if (what == 0) {
            return folk.today();
        }
        return what < 1 || what > 6 ? NONE : folk.menWho(country.men, what - 1);
    }

    public int swear(int m, int p, int d) {
        if (!country.hasMan(m) || !country.isPort(p) || d < 1 || d > 40) {
            return NONE;
        }
        trial.copy(folk);
        return keptIfDone(folk.swears(country, m, p, d));
    }

    public int order(int m, int n) {
        if (!country.hasMan(m) || n < 0 || n > 20) {
            return NONE;
        }
        trial.copy(folk);
        return keptIfDone(folk.orders(country, m, n));
    }

    public int slip(int m) {
        if (!country.hasMan(m)) {
            return NONE;
        }
        trial.copy(folk);
        return keptIfDone(folk.slips(m));
    }

    public int enter(int m) {
        if (!country.hasMan(m)) {
            return NONE;
        }
        trial.copy(folk);
        return keptIfDone(folk.enters(country, m));
    }

    public int get(int m, int n) {
        if (!country.hasMan(m) || n < 1 || n > 99) {
            return NONE;
        }
        trial.copy(folk);
        return keptIfDone(folk.gets(m, n));
    }

    public int days(int n, int seed) {
        if (n < 1 || n > MOST_IN_A_CALL) {
            return NONE;
        }
        trial.copy(folk);
        int went = folk.goDays(country, n, seed);
        if (went > 0) {
            history.keep(trial);
        }
        return went;
    }

    /** Of an act that was tried on the MEN, who were as the trial is: it can be undone if it was done. */
    private int keptIfDone(int why) {
        if (why == 0) {
            history.keep(trial);
        }
        return why;
    }

    public int undo() {
        return history.takeBack(folk);
    }

    // ---- what can be asked ----

    public int far(int a, int b) {
        if (!country.hasPlace(a) || !country.hasPlace(b) || !country.joined(a, b)) {
            return NONE;
        }
        return country.milesBetween(a, b);
    }

    public int way(int a, int b) {
        if (!country.hasPlace(a) || !country.hasPlace(b) || !country.joined(a, b)) {
            return NONE;
        }
        int at = a;
        latestWay[0] = a;
        int n = 1;
        while (n < MOST_PLACES && at != b && at != NONE) {
            at = country.nextTo(at, b);
            latestWay[n] = at;
            n++;
        }
        latestWayLength = n;
        return n;
    }

    public int wayAt(int k) {
        return k < 0 || k >= latestWayLength ? NONE : latestWay[k];
    }

    public long plan(int m, int what) throws NoSuchElementException {
        if (!country.hasMan(m) || what < 0 || what > 1) {
            throw new NoSuchElementException();
        }
        if (folk.of(m, Folk.HOW) != WALKS || folk.daysYet(m) > Planner.MOST_DAYS) {
            throw new NoSuchElementException();
        }
        planner.think(country, folk, m);
        return what == 0 ? planner.above : planner.below;
    }

    public int planAt(int k) {
        return planner.milesOn(k);
    }

    public int sent() {
        return sender.send(country, folk);
    }

    public int sentTo(int m) {
        return sender.portOf(m);
    }

    public int cut(int a, int b) {
        if (!country.hasPlace(a) || !country.hasPlace(b) || a == b) {
            return NONE;
        }
        return cutter.part(country, a, b);
    }

    public int cutting() {
        return cutter.latest;
    }

    public int worst(int a, int b) {
        if (!country.hasPlace(a) || !country.hasPlace(b) || a == b || !country.joined(a, b)) {
            return NONE;
        }
        int found = NONE;
        int at = a;
        for (int k = 0; k < MOST_PLACES && at != b && at != NONE; k++) {
            int r = country.roadToward(at, b);
            if (found == NONE || country.ofRoad(r, Land.DANGER) > country.ofRoad(found, Land.DANGER)) {
                found = r;
            }
            at = country.nextTo(at, b);
        }
        return found;
    }

    public int ship(int p, int n, int what) throws NoSuchElementException {
        if (!country.isPort(p) || n < 0 || n > 8 || what < 0 || what > 1) {
            throw new NoSuchElementException();
        }
        long all = 1;
        long without = 1;
        for (int k = 0; k < n; k++) {
            all *= 12;
            without *= 12 - country.ofPlace(p, Land.ODDS);
        }
        long above = all - without;
        long common = commonDivisor(above, all);
        return (int) (what == 0 ? above / common : all / common);
    }

    public int turned(int m) {
        int found = NONE;
        if (country.hasMan(m) && folk.of(m, Folk.HOW) == WALKS) {
            found = tracker.track(reader, country.ofMan(m, Land.PACE), folk.allMiles(country, m));
        }
        reader.length = 0;
        return found;
    }

    public int least() {
        return tracker.least;
    }

    public int greatest() {
        return tracker.greatest;
    }

    public int there(int m) {
        if (!country.hasMan(m) || folk.of(m, Folk.HOW) != WALKS) {
            return NONE;
        }
        int pace = folk.of(m, Folk.ORDERED);
        if (pace < 1) {
            return NONE;
        }
        int left = folk.allMiles(country, m) - folk.of(m, Folk.GONE);
        int needed = (left + pace - 1) / pace;
        int day = folk.today() + needed - 1;
        return needed > folk.daysYet(m) || day >= ALL_OVER ? NONE : day;
    }

    public int oath(int m) {
        return country.hasMan(m) ? scribe.write(country, folk, m) : NONE;
    }

    public int byteAt(int i) {
        return i < 0 || i >= scribe.length ? NONE : scribe.text[i];
    }

    public int odds(int m, int n, int seed) {
        if (!country.hasMan(m) || n < 1 || n > MOST_IN_A_CALL) {
            return NONE;
        }
        int sailed = 0;
        for (int k = 0; k < n; k++) {
            trial.copy(folk);
            if (trial.sailsIn(country, m, MOST_IN_A_CALL, seed + k)) {
                sailed++;
            }
        }
        return sailed;
    }

    // ---- the BOOK and the SENTENCE ----

    public int book(int lives) {
        if (lives < 0 || lives > 1) {
            return -1000;
        }
        boolean fine = ledger.read(reader, country);
        reader.length = 0;
        if (!fine) {
            return -2 - reader.faultAt;
        }
        trial.copy(folk);
        int wrong = ledger.live(country, trial);
        if (lives == 1 && ledger.lived > 0) {
            history.keep(folk);
            folk.copy(trial);
        }
        return wrong;
    }

    public int told(int what) {
        return what < 0 || what > 3 ? NONE : ledger.verdict[what];
    }

    public int sentence() {
        boolean fine = sparePhrase.read(reader, country);
        reader.length = 0;
        if (!fine) {
            return -1 - reader.faultAt;
        }
        Phrase before = phrase;
        phrase = sparePhrase;
        sparePhrase = before;
        return phrase.ones;
    }

    public int said(int k) {
        if (phrase.ones == 0 || k < NONE) {
            return NONE;
        }
        int found = 0;
        for (int m = 0; m < country.men; m++) {
            if (phrase.holds(country, folk, m)) {
                if (found == k) {
                    return m;
                }
                found++;
            }
        }
        return k == NONE ? found : NONE;
    }

    // ---- images ----

    public boolean image(int k) {
        if (k < 0 || k >= IMAGES) {
            return false;
        }
        if (!isKept(k)) {
            keptCountries[k] = new Land();
            keptFolks[k] = new Folk();
            keptPhrases[k] = new Phrase();
        }
        keptCountries[k].copy(country);
        keptFolks[k].copy(folk);
        keptPhrases[k].copy(phrase);
        return true;
    }

    public boolean restore(int k) {
        if (k < 0 || k >= IMAGES || !isKept(k)) {
            return false;
        }
        country.copy(keptCountries[k]);
        folk.copy(keptFolks[k]);
        phrase.copy(keptPhrases[k]);
        history.clear();
        return true;
    }

    private boolean isKept(int k) {
        return keptCountries[k] != null && keptFolks[k] != null && keptPhrases[k] != null;
    }

    /** The divisor is never 0: of 0 and a number above 0 it is the number. */
    private static long commonDivisor(long a, long b) {
        long x = a;
        long y = b;
        for (int k = 0; k < 1000 && y != 0; k++) {
            long rest = x % y;
            x = y;
            y = rest;
        }
        return x < 1 ? 1 : x;
    }

    /** The tape, and its TOKENS one behind the other; a text's first FAULT is held, and nothing is read behind it. */
    private static final class Reader {
        static final int END = 0;
        static final int BAD = 1;
        static final int KEY = 2;
        static final int NAME = 3;
        static final int DIGITS = 4;
        static final int MOST_BYTES = 940;

        final byte[] tape = new byte[MOST_BYTES];
        int length = 0;
        final long[] keys = new long[KEYS];

        /** TOKENS begin ahead of it. */
        int limit = 0;
        boolean tooLong = false;
        int at = 0;

        int kind = END;
        int start = 0;
        int key = NONE;
        int value = 0;
        long name = 0;

        int fault = 0;
        int faultAt = 0;

        Reader() {
            int k = 0;
            for (int i = 0; i < KEYWORDS.length() && k < KEYS; i++) {
                char c = KEYWORDS.charAt(i);
                if (c == ' ') {
                    k++;
                } else {
                    keys[k] = keys[k] * 32 + (c - 'a' + 1);
                }
            }
        }

        boolean hasRoom(int bytes) {
            return length + bytes <= MOST_BYTES;
        }

        void take(int number) {
            for (int shift = 24; shift >= 0; shift -= 8) {
                if (length < MOST_BYTES) {
                    tape[length] = (byte) (number >>> shift);
                    length++;
                }
            }
        }

        void begin(int mostBytes) {
            fault = 0;
            faultAt = 0;
            tooLong = length > mostBytes;
            limit = tooLong ? mostBytes : length;
            at = 0;
            advance();
        }

        void fail(int kindOfFault) {
            if (fault == 0) {
                fault = kindOfFault;
                faultAt = start;
            }
        }

        /** Whether a TOKEN is there; a text that is too long has a FAULT where it should have ended. */
        boolean more() {
            if (kind == END && tooLong) {
                fail(NO_TOKEN);
            }
            return fault == 0 && kind != END;
        }

        void advance() {
            while (at < limit && (tape[at] == 32 || tape[at] == 10)) {
                at++;
            }
            key = NONE;
            if (at >= limit) {
                kind = END;
                start = limit;
                return;
            }
            start = at;
            int c = tape[at];
            if (c == ';' || c == '<' || c == '=' || c == '>' || c == '(' || c == ')') {
                kind = c;
                at++;
                return;
            }
            readRun();
            if (at == start) {
                kind = BAD;
                at++;
            }
        }

        /** Passes small letters and digits, beyond the limit too, and tells what they are. */
        private void readRun() {
            int letters = 0;
            int digits = 0;
            name = 0;
            value = 0;
            while (at < length) {
                int c = tape[at];
                if (c >= 'a' && c <= 'z') {
                    name = name * 32 + (c - 'a' + 1);
                    letters++;
                } else if (c >= '0' && c <= '9') {
                    value = value * 10 + (c - '0');
                    digits++;
                } else {
                    break;
                }
                at++;
            }
            kind = BAD;
            if (digits == 0 && letters <= 7) {
                kind = NAME;
                for (int k = 0; k < KEYS && kind == NAME; k++) {
                    if (keys[k] == name) {
                        key = k;
                        kind = KEY;
                    }
                }
            } else if (letters == 0 && digits <= 3) {
                kind = DIGITS;
            }
        }

        void expect(int sign) {
            if (fault != 0) {
                return;
            }
            if (kind == sign) {
                advance();
            } else {
                fail(NO_TOKEN);
            }
        }

        int number(int fewest, int most) {
            if (fault != 0) {
                return fewest;
            }
            if (kind != DIGITS) {
                fail(NO_TOKEN);
                return fewest;
            }
            if (value < fewest || value > most) {
                fail(BAD_NUMBER);
                return fewest;
            }
            int n = value;
            advance();
            return n;
        }
    }

    /** PLACES, roads and MEN as told, and the MILES and WAYS between all PLACES. */
    private static final class Land {
        static final int MOST_BYTES = 900;
        static final int NO_ROAD = 100000;

        static final int SORT = 0;
        static final int ODDS = 1;
        static final int PAY = 2;
        static final int HOLDS = 3;
        static final int OF_PLACE = 4;

        static final int ONE_END = 0;
        static final int OTHER_END = 1;
        static final int LENGTH = 2;
        static final int DANGER = 3;
        static final int HAS_FORD = 4;
        static final int OF_ROAD = 5;

        static final int FIRST_CHURCH = 0;
        static final int PACE = 1;
        static final int FIRST_COIN = 2;
        static final int HAS_KIN = 3;
        static final int OF_MAN = 4;

        int places = 0;
        int roads = 0;
        int men = 0;
        int ports = 0;
        int lines = 0;
        final long[] placeNames = new long[MOST_PLACES];
        final long[] manNames = new long[MOST_MEN];
        final int[] placeRows = new int[MOST_PLACES * OF_PLACE];
        final int[] roadRows = new int[MOST_ROADS * OF_ROAD];
        final int[] manRows = new int[MOST_MEN * OF_MAN];
        /** By two PLACES: the road between them, FAR, and behind the first one on the WAY the PLACE and the road to it. */
        final int[] between = new int[MOST_PLACES * MOST_PLACES];
        final int[] miles = new int[MOST_PLACES * MOST_PLACES];
        final int[] nexts = new int[MOST_PLACES * MOST_PLACES];
        final int[] towards = new int[MOST_PLACES * MOST_PLACES];

        void copy(Land other) {
            places = other.places;
            roads = other.roads;
            men = other.men;
            ports = other.ports;
            lines = other.lines;
            System.arraycopy(other.placeNames, 0, placeNames, 0, MOST_PLACES);
            System.arraycopy(other.manNames, 0, manNames, 0, MOST_MEN);
            System.arraycopy(other.placeRows, 0, placeRows, 0, MOST_PLACES * OF_PLACE);
            System.arraycopy(other.roadRows, 0, roadRows, 0, MOST_ROADS * OF_ROAD);
            System.arraycopy(other.manRows, 0, manRows, 0, MOST_MEN * OF_MAN);
            System.arraycopy(other.between, 0, between, 0, MOST_PLACES * MOST_PLACES);
            System.arraycopy(other.miles, 0, miles, 0, MOST_PLACES * MOST_PLACES);
            System.arraycopy(other.nexts, 0, nexts, 0, MOST_PLACES * MOST_PLACES);
            System.arraycopy(other.towards, 0, towards, 0, MOST_PLACES * MOST_PLACES);
        }

        boolean hasPlace(int p) {
            return p >= 0 && p < places;
        }

        boolean hasMan(int m) {
            return m >= 0 && m < men;
        }

        boolean isPort(int p) {
            return hasPlace(p) && ofPlace(p, SORT) == PORT;
        }

        int ofPlace(int p, int what) {
            int i = p * OF_PLACE + what;
            return i < 0 || i >= placeRows.length ? NONE : placeRows[i];
        }

        int ofRoad(int r, int what) {
            int i = r * OF_ROAD + what;
            return i < 0 || i >= roadRows.length ? NONE : roadRows[i];
        }

        int ofMan(int m, int what) {
            int i = m * OF_MAN + what;
            return i < 0 || i >= manRows.length ? NONE : manRows[i];
        }

        int roadBetween(int a, int b) {
            int i = a * MOST_PLACES + b;
            return i < 0 || i >= between.length ? NONE : between[i];
        }

        boolean joined(int a, int b) {
            return milesBetween(a, b) < NO_ROAD;
        }

        int milesBetween(int a, int b) {
            int i = a * MOST_PLACES + b;
            return i < 0 || i >= miles.length ? NO_ROAD : miles[i];
        }

        int nextTo(int at, int goal) {
            int i = at * MOST_PLACES + goal;
            return i < 0 || i >= nexts.length ? NONE : nexts[i];
        }

        /** The road on which one leaves a PLACE for another one that is joined to it. */
        int roadToward(int at, int goal) {
            int i = at * MOST_PLACES + goal;
            return i < 0 || i >= towards.length ? NONE : towards[i];
        }

        long nameOfPlace(int p) {
            return p < 0 || p >= placeNames.length ? 0 : placeNames[p];
        }

        long nameOfMan(int m) {
            return m < 0 || m >= manNames.length ? 0 : manNames[m];
        }

        int placeNamed(long name) {
            for (int p = 0; p < places; p++) {
                if (placeNames[p] == name) {
                    return p;
                }
            }
            return NONE;
        }

        int manNamed(long name) {
            for (int m = 0; m < men; m++) {
                if (manNames[m] == name) {
                    return m;
                }
            }
            return NONE;
        }

        boolean read(Reader in) {
            places = 0;
            roads = 0;
            men = 0;
            ports = 0;
            lines = 0;
            Arrays.fill(between, NONE);
            in.begin(MOST_BYTES);
            for (int n = 0; n < MOST_BYTES && in.more(); n++) {
                readLine(in);
                in.expect(';');
                lines++;
            }
            if (in.fault != 0) {
                return false;
            }
            measure();
            findWays();
            return true;
        }

        private void readLine(Reader in) {
            if (in.key == CHURCH || in.key == INN || in.key == PORT) {
                readPlace(in);
            } else if (in.key == ROAD) {
                readRoad(in);
            } else if (in.key == MAN) {
                readMan(in);
            } else if (in.key == KIN) {
                readKin(in);
            } else {
                in.fail(NO_TOKEN);
            }
        }

        private void readPlace(Reader in) {
            if (places >= MOST_PLACES) {
                in.fail(TOO_MANY);
                return;
            }
            int sort = in.key;
            int row = places * OF_PLACE;
            in.advance();
            placeNames[places] = freshName(in);
            placeRows[row + SORT] = sort;
            placeRows[row + ODDS] = sort == PORT ? in.number(0, 12) : 0;
            placeRows[row + PAY] = sort == PORT ? in.number(0, 99) : 0;
            placeRows[row + HOLDS] = sort == PORT ? in.number(1, 6) : 0;
            places++;
            if (sort == PORT) {
                ports++;
            }
        }

        private void readRoad(Reader in) {
            if (roads >= MOST_ROADS) {
                in.fail(TOO_MANY);
                return;
            }
            in.advance();
            int a = knownPlace(in);
            if (a == NONE) {
                return;
            }
            in.advance();
            int b = knownPlace(in);
            if (b == NONE) {
                return;
            }
            if (a == b || roadBetween(a, b) != NONE) {
                in.fail(BAD_NAME);
                return;
            }
            in.advance();
            int row = roads * OF_ROAD;
            roadRows[row + ONE_END] = a;
            roadRows[row + OTHER_END] = b;
            roadRows[row + LENGTH] = in.number(1, 30);
            roadRows[row + DANGER] = in.number(0, 12);
            roadRows[row + HAS_FORD] = 0;
            if (in.fault == 0 && in.key == FORD) {
                roadRows[row + HAS_FORD] = 1;
                in.advance();
            }
            between[a * MOST_PLACES + b] = roads;
            between[b * MOST_PLACES + a] = roads;
            roads++;
        }

        private void readMan(Reader in) {
            if (men >= MOST_MEN) {
                in.fail(TOO_MANY);
                return;
            }
            in.advance();
            manNames[men] = freshName(in);
            int church = knownPlace(in);
            if (church == NONE) {
                return;
            }
            if (ofPlace(church, SORT) != CHURCH) {
                in.fail(BAD_NAME);
                return;
            }
            in.advance();
            int row = men * OF_MAN;
            manRows[row + FIRST_CHURCH] = church;
            manRows[row + PACE] = in.number(1, 20);
            manRows[row + FIRST_COIN] = in.number(0, 99);
            manRows[row + HAS_KIN] = 0;
            men++;
        }

        private void readKin(Reader in) {
            in.advance();
            int m = knownMan(in);
            if (m == NONE) {
                return;
            }
            if (ofMan(m, HAS_KIN) == 1) {
                in.fail(BAD_NAME);
                return;
            }
            manRows[m * OF_MAN + HAS_KIN] = 1;
            in.advance();
        }

        private long freshName(Reader in) {
            if (in.kind != Reader.NAME) {
                in.fail(NO_TOKEN);
                return 0;
            }
            if (placeNamed(in.name) != NONE || manNamed(in.name) != NONE) {
                in.fail(BAD_NAME);
                return 0;
            }
            long name = in.name;
            in.advance();
            return name;
        }

        /** Which PLACE the TOKEN names, which is not passed, as more may be wrong with it. */
        int knownPlace(Reader in) {
            if (in.kind != Reader.NAME) {
                in.fail(NO_TOKEN);
                return NONE;
            }
            int p = in.fault == 0 ? placeNamed(in.name) : NONE;
            if (p == NONE) {
                in.fail(BAD_NAME);
            }
            return p;
        }

        int knownMan(Reader in) {
            if (in.kind != Reader.NAME) {
                in.fail(NO_TOKEN);
                return NONE;
            }
            int m = in.fault == 0 ? manNamed(in.name) : NONE;
            if (m == NONE) {
                in.fail(BAD_NAME);
            }
            return m;
        }

        private void measure() {
            Arrays.fill(miles, NO_ROAD);
            for (int p = 0; p < places; p++) {
                miles[p * MOST_PLACES + p] = 0;
            }
            for (int r = 0; r < roads; r++) {
                int a = ofRoad(r, ONE_END);
                int b = ofRoad(r, OTHER_END);
                miles[a * MOST_PLACES + b] = ofRoad(r, LENGTH);
                miles[b * MOST_PLACES + a] = ofRoad(r, LENGTH);
            }
            for (int by = 0; by < places; by++) {
                for (int a = 0; a < places; a++) {
                    for (int b = 0; b < places && joined(a, by); b++) {
                        int through = milesBetween(a, by) + milesBetween(by, b);
                        if (through < milesBetween(a, b)) {
                            miles[a * MOST_PLACES + b] = through;
                        }
                    }
                }
            }
        }

        private void findWays() {
            for (int a = 0; a < places; a++) {
                for (int b = 0; b < places; b++) {
                    int next = a != b && joined(a, b) ? firstStep(a, b) : NONE;
                    nexts[a * MOST_PLACES + b] = next;
                    towards[a * MOST_PLACES + b] = next == NONE ? NONE : roadBetween(a, next);
                }
            }
        }

        private int firstStep(int a, int b) {
            for (int p = 0; p < places; p++) {
                int r = roadBetween(a, p);
                if (r != NONE && ofRoad(r, LENGTH) + milesBetween(p, b) == milesBetween(a, b)) {
                    return p;
                }
            }
            return NONE;
        }
    }

    /** The DAY and how each MAN is, in one row, so that it is kept and brought back at once. */
    private static final class Folk {
        static final int HOW = 0;
        static final int PURSE = 1;
        static final int SWORE = 2;
        static final int GOAL = 3;
        static final int HOME = 4;
        static final int GONE = 5;
        static final int DAYS_LEFT = 6;
        static final int ORDERED = 7;
        static final int NIGHTS = 8;
        static final int WADED = 9;
        static final int WALKED = 10;
        /** The PLACE of his WAY that he reached last, and the MILES that he is beyond it. */
        static final int REACHED = 11;
        static final int BEYOND = 12;
        static final int OF_MAN = 13;
        static final int MOST_COIN = 999;

        private final int[] row = new int[MOST_MEN * OF_MAN];
        private int day = 0;
        private int seed = 0;

        void copy(Folk other) {
            day = other.day;
            System.arraycopy(other.row, 0, row, 0, MOST_MEN * OF_MAN);
        }

        void settle(Land land) {
            day = 0;
            Arrays.fill(row, 0);
            for (int m = 0; m < land.men; m++) {
                put(m, HOW, SAFE);
                put(m, PURSE, land.ofMan(m, Land.FIRST_COIN));
                put(m, GOAL, NONE);
                put(m, HOME, land.ofMan(m, Land.FIRST_CHURCH));
                put(m, REACHED, land.ofMan(m, Land.FIRST_CHURCH));
                put(m, ORDERED, land.ofMan(m, Land.PACE));
            }
        }

        int today() {
            return day;
        }

        int of(int m, int what) {
            int i = m * OF_MAN + what;
            return i < 0 || i >= row.length ? NONE : row[i];
        }

        private void put(int m, int what, int value) {
            int i = m * OF_MAN + what;
            if (i >= 0 && i < row.length) {
                row[i] = value;
            }
        }

        private void more(int m, int what, int n) {
            int i = m * OF_MAN + what;
            if (i >= 0 && i < row.length) {
                row[i] += n;
            }
        }

        int allMiles(Land land, int m) {
            return of(m, HOW) == SAFE ? 0 : land.milesBetween(of(m, HOME), of(m, GOAL));
        }

        int daysYet(int m) {
            return of(m, HOW) == WALKS ? of(m, DAYS_LEFT) : 0;
        }

        boolean isJustAt(int m, int p) {
            return of(m, HOW) <= WAITS && of(m, BEYOND) == 0 && of(m, REACHED) == p;
        }

        int menAt(int men, int p) {
            int bits = 0;
            for (int m = 0; m < men; m++) {
                if (isJustAt(m, p)) {
                    bits |= 1 << m;
                }
            }
            return bits;
        }

        int menWho(int men, int how) {
            int bits = 0;
            for (int m = 0; m < men; m++) {
                if (of(m, HOW) == how) {
                    bits |= 1 << m;
                }
            }
            return bits;
        }

        int swears(Land land, int m, int p, int d) {
            if (of(m, HOW) != SAFE) {
                return 1;
            }
            if (!land.joined(of(m, HOME), p)) {
                return 2;
            }
            if (of(m, SWORE) >= 2) {
                return 3;
            }
            put(m, HOW, WALKS);
            more(m, SWORE, 1);
            put(m, GOAL, p);
            put(m, GONE, 0);
            put(m, DAYS_LEFT, d);
            put(m, ORDERED, land.ofMan(m, Land.PACE));
            put(m, NIGHTS, 0);
            return 0;
        }

        int orders(Land land, int m, int n) {
            if (of(m, HOW) != WALKS) {
                return 1;
            }
            if (n > land.ofMan(m, Land.PACE)) {
                return 2;
            }
            if (n == of(m, ORDERED)) {
                return 3;
            }
            put(m, ORDERED, n);
            return 0;
        }

        int slips(int m) {
            if (of(m, HOW) != WALKS) {
                return 1;
            }
            put(m, HOW, OUTLAW);
            return 0;
        }

        int enters(Land land, int m) {
            if (of(m, HOW) != WALKS) {
                return 1;
            }
            int p = of(m, REACHED);
            if (of(m, BEYOND) != 0 || land.ofPlace(p, Land.SORT) != CHURCH) {
                return 2;
            }
            put(m, HOW, SAFE);
            put(m, HOME, p);
            put(m, GONE, 0);
            put(m, NIGHTS, 0);
            return 0;
        }

        int gets(int m, int n) {
            if (of(m, HOW) > WAITS) {
                return 1;
            }
            put(m, PURSE, Math.min(MOST_COIN, of(m, PURSE) + n));
            return 0;
        }

        int daysToCome() {
            return ALL_OVER - day;
        }

        int goDays(Land land, int n, int x) {
            seed = x;
            int went = Math.min(n, daysToCome());
            for (int k = 0; k < went; k++) {
                goDay(land);
            }
            return went;
        }

        /** The days end as soon as it is certain for him: who is neither on his way nor waiting stays as he is. */
        boolean sailsIn(Land land, int m, int n, int x) {
            seed = x;
            int most = Math.min(n, daysToCome());
            for (int k = 0; k < most && (of(m, HOW) == WALKS || of(m, HOW) == WAITS); k++) {
                goDay(land);
            }
            return of(m, HOW) == SAILED;
        }

        private int draw(int n) {
            seed = seed * 1103515245 + 12345;
            return n < 1 ? 0 : (seed >>> 8) % n;
        }

        private void goDay(Land land) {
            for (int m = 0; m < land.men; m++) {
                if (of(m, HOW) == WAITS) {
                    waitForShip(land, m);
                } else if (of(m, HOW) == WALKS) {
                    walk(land, m);
                }
            }
            day++;
        }

        private void waitForShip(Land land, int m) {
            int port = of(m, GOAL);
            boolean goes = draw(12) < land.ofPlace(port, Land.ODDS);
            int pay = land.ofPlace(port, Land.PAY);
            if (goes && of(m, PURSE) >= pay) {
                more(m, PURSE, -pay);
                put(m, HOW, SAILED);
            } else {
                more(m, WADED, 1);
            }
        }

        private void walk(Land land, int m) {
            int goes = Math.min(of(m, ORDERED), allMiles(land, m) - of(m, GONE));
            boolean held = meetsFord(land, m, goes) && draw(6) == 0;
            if (!held && goes > 0) {
                put(m, NIGHTS, 0);
                step(land, m, goes);
            } else if (!held) {
                more(m, NIGHTS, 1);
                if (of(m, NIGHTS) >= 2) {
                    put(m, HOW, OUTLAW);
                    return;
                }
            }
            if (isJustAt(m, of(m, GOAL))) {
                put(m, HOW, WAITS);
            } else if (of(m, BEYOND) > 0 && draw(12) < dangerFor(land, m, of(m, REACHED))) {
                put(m, HOW, SLAIN);
            } else {
                more(m, DAYS_LEFT, -1);
                if (of(m, DAYS_LEFT) <= 0) {
                    put(m, HOW, OUTLAW);
                }
            }
        }

        /** DANGER for a MAN on the road by which his WAY leaves a PLACE. */
        int dangerFor(Land land, int m, int from) {
            int danger = land.ofRoad(land.roadToward(from, of(m, GOAL)), Land.DANGER);
            return land.ofMan(m, Land.HAS_KIN) == 1 ? danger / 2 : danger;
        }

        private boolean meetsFord(Land land, int m, int goes) {
            int goal = of(m, GOAL);
            int at = of(m, REACHED);
            int left = goes + of(m, BEYOND);
            for (int k = 0; k < MOST_PLACES && goes > 0 && left > 0 && at != goal; k++) {
                int r = land.roadToward(at, goal);
                if (land.ofRoad(r, Land.HAS_FORD) == 1) {
                    return true;
                }
                left -= land.ofRoad(r, Land.LENGTH);
                at = land.nextTo(at, goal);
            }
            return false;
        }

        private void step(Land land, int m, int goes) {
            int goal = of(m, GOAL);
            int at = of(m, REACHED);
            int left = goes + of(m, BEYOND);
            for (int k = 0; k < MOST_PLACES && at != goal; k++) {
                int length = land.ofRoad(land.roadToward(at, goal), Land.LENGTH);
                if (left < length) {
                    break;
                }
                left -= length;
                at = land.nextTo(at, goal);
            }
            put(m, REACHED, at);
            put(m, BEYOND, left);
            more(m, GONE, goes);
            more(m, WALKED, goes);
        }
    }

    /** The states ahead of the latest acts, eight at most: a ninth takes the room of the oldest. */
    private static final class History {
        static final int MOST = 8;

        private final Folk[] kept = new Folk[MOST];
        private int first = 0;
        private int size = 0;

        History() {
            for (int k = 0; k < MOST; k++) {
                kept[k] = new Folk();
            }
        }

        void clear() {
            size = 0;
        }

        void keep(Folk folk) {
            kept[(first + size) % MOST].copy(folk);
            if (size < MOST) {
                size++;
            } else {
                first = (first + 1) % MOST;
            }
        }

        int takeBack(Folk folk) {
            if (size == 0) {
                return NONE;
            }
            size--;
            folk.copy(kept[(first + size) % MOST]);
            return size;
        }
    }

    /** A BOOK's LINES, and how the latest one was judged. */
    private static final class Ledger {
        static final int MOST_BYTES = 400;
        static final int MOST_LINES = 40;
        static final int ACT = 0;
        static final int WHO = 1;
        static final int WHERE = 2;
        static final int HOW_MUCH = 3;
        static final int OF_LINE = 4;

        final int[] verdict = {NONE, NONE, NONE, NONE};
        int lived = 0;
        private final int[] rows = new int[MOST_LINES * OF_LINE];
        private int lines = 0;

        boolean read(Reader in, Land land) {
            lines = 0;
            in.begin(MOST_BYTES);
            for (int n = 0; n < MOST_BYTES && in.more(); n++) {
                readLine(in, land);
                in.expect(';');
            }
            return in.fault == 0;
        }

        private void readLine(Reader in, Land land) {
            boolean isDay = in.key == DAY;
            int m = isDay ? NONE : land.knownMan(in);
            if (in.fault == 0 && lines >= MOST_LINES) {
                in.fail(TOO_MANY);
            }
            if (in.fault != 0) {
                return;
            }
            in.advance();
            int row = lines * OF_LINE;
            rows[row + ACT] = DAY;
            rows[row + WHO] = m;
            rows[row + WHERE] = NONE;
            rows[row + HOW_MUCH] = 0;
            if (isDay) {
                rows[row + HOW_MUCH] = in.number(1, 30);
            } else {
                readAct(in, land, row);
            }
            lines++;
        }

        private void readAct(Reader in, Land land, int row) {
            int act = in.key;
            if (act < SWEARS || act > GETS) {
                in.fail(NO_TOKEN);
                return;
            }
            rows[row + ACT] = act;
            in.advance();
            if (act == SWEARS) {
                int p = land.knownPlace(in);
                if (p != NONE && !land.isPort(p)) {
                    in.fail(BAD_NAME);
                }
                if (in.fault != 0) {
                    return;
                }
                rows[row + WHERE] = p;
                in.advance();
                rows[row + HOW_MUCH] = in.number(1, 40);
            } else if (act == ORDERS) {
                rows[row + HOW_MUCH] = in.number(0, 20);
            } else if (act == GETS) {
                rows[row + HOW_MUCH] = in.number(1, 99);
            }
        }

        /** Lives the LINES until one is WRONG: which one. */
        int live(Land land, Folk folk) {
            int why = 0;
            lived = 0;
            while (lived < lines) {
                why = liveLine(land, folk, lived * OF_LINE);
                if (why != 0) {
                    break;
                }
                lived++;
            }
            verdict[0] = why;
            verdict[1] = lived;
            verdict[2] = folk.today();
            verdict[3] = folk.menWho(land.men, SAILED);
            return why == 0 ? NONE : lived;
        }

        private int liveLine(Land land, Folk folk, int row) {
            int m = rows[row + WHO];
            int n = rows[row + HOW_MUCH];
            switch (rows[row + ACT]) {
                case SWEARS: return folk.swears(land, m, rows[row + WHERE], n);
                case ORDERS: return above(10, folk.orders(land, m, n));
                case SLIPS: return above(20, folk.slips(m));
                case ENTERS: return above(30, folk.enters(land, m));
                case GETS: return above(40, folk.gets(m, n));
                default: break;
            }
            if (folk.daysToCome() < n) {
                return 51;
            }
            folk.goDays(land, n, n);
            return 0;
        }

        private static int above(int base, int why) {
            return why == 0 ? 0 : base + why;
        }
    }

    /** A SENTENCE, its parts in the order in which they are worked out: what is joined stands ahead of what joins. */
    private static final class Phrase {
        static final int MOST_BYTES = 200;
        static final int MOST_ONES = 20;
        static final int MOST_WITHIN = 8;
        /** Each ONE is at most one part, and fewer than all of them are joined. */
        static final int MOST_PARTS = 2 * MOST_ONES;

        int ones = 0;
        private int parts = 0;
        private final int[] keys = new int[MOST_PARTS];
        private final int[] signs = new int[MOST_PARTS];
        private final int[] values = new int[MOST_PARTS];

        void clear() {
            ones = 0;
            parts = 0;
        }

        void copy(Phrase other) {
            ones = other.ones;
            parts = other.parts;
            System.arraycopy(other.keys, 0, keys, 0, MOST_PARTS);
            System.arraycopy(other.signs, 0, signs, 0, MOST_PARTS);
            System.arraycopy(other.values, 0, values, 0, MOST_PARTS);
        }

        boolean read(Reader in, Land land) {
            clear();
            in.begin(MOST_BYTES);
            readCond(in, land, 1);
            if (in.more()) {
                in.fail(NO_TOKEN);
            }
            return in.fault == 0;
        }

        private void readCond(Reader in, Land land, int depth) {
            readAll(in, land, depth);
            for (int n = 0; n < MOST_ONES && in.fault == 0 && in.key == OR; n++) {
                in.advance();
                readAll(in, land, depth);
                add(OR, 0, 0);
            }
        }

        private void readAll(Reader in, Land land, int depth) {
            readOne(in, land, depth);
            for (int n = 0; n < MOST_ONES && in.fault == 0 && in.key == AND; n++) {
                in.advance();
                readOne(in, land, depth);
                add(AND, 0, 0);
            }
        }

        private void readOne(Reader in, Land land, int depth) {
            int key = in.key;
            boolean bracket = in.kind == '(';
            if (!bracket && key != KIN && (key < NOT || key > NUMBER)) {
                in.fail(NO_TOKEN);
                return;
            }
            if (ones >= MOST_ONES || depth > MOST_WITHIN) {
                in.fail(TOO_MANY);
                return;
            }
            ones++;
            in.advance();
            if (bracket) {
                readCond(in, land, depth + 1);
                in.expect(')');
            } else if (key == NOT) {
                readOne(in, land, depth + 1);
                add(NOT, 0, 0);
            } else if (key == TO || key == AT) {
                add(key, 0, land.knownPlace(in));
                if (in.fault == 0) {
                    in.advance();
                }
            } else if (key >= COIN) {
                int sign = in.kind;
                if (sign != '<' && sign != '=' && sign != '>') {
                    in.fail(NO_TOKEN);
                    return;
                }
                in.advance();
                add(key, sign, in.number(0, 999));
            } else {
                add(key, 0, 0);
            }
        }

        private void add(int key, int sign, int value) {
            if (parts < MOST_PARTS) {
                keys[parts] = key;
                signs[parts] = sign;
                values[parts] = value;
                parts++;
            }
        }

        /** Works on a pile of truths that are the bits of a number, the topmost one lowest. */
        boolean holds(Land land, Folk folk, int m) {
            int pile = 0;
            for (int k = 0; k < parts; k++) {
                int top = pile & 1;
                if (keys[k] == NOT) {
                    pile ^= 1;
                } else if (keys[k] == AND) {
                    pile = top == 1 ? pile >> 1 : pile >> 1 & ~1;
                } else if (keys[k] == OR) {
                    pile = pile >> 1 | top;
                } else {
                    pile = (pile << 1) | (isSo(land, folk, m, k) ? 1 : 0);
                }
            }
            return (pile & 1) == 1;
        }

        private boolean isSo(Land land, Folk folk, int m, int k) {
            int key = keys[k];
            if (key >= IS_SAFE && key <= IS_SLAIN) {
                return folk.of(m, Folk.HOW) == key - IS_SAFE;
            }
            switch (key) {
                case KIN: return land.ofMan(m, Land.HAS_KIN) == 1;
                case TO: return folk.of(m, Folk.GOAL) == values[k];
                case AT: return folk.isJustAt(m, values[k]);
                case COIN: return compares(folk.of(m, Folk.PURSE), k);
                case DAYS: return compares(folk.daysYet(m), k);
                case MILES: return compares(folk.of(m, Folk.WALKED), k);
                default: return compares(m, k);
            }
        }

        private boolean compares(int number, int k) {
            switch (signs[k]) {
                case '<': return number < values[k];
                case '=': return number == values[k];
                default: return number > values[k];
            }
        }
    }

    /**
     * PLAN: by DAYS left and MILES gone, in how many of 12 to the DAYS cases he is there. A DAY more never makes it less
     * likely, so a night never makes it likelier: nights count only where the first of like plans is chosen.
     */
    private static final class Planner {
        static final int MOST_DAYS = 12;
        static final int MILESTONES = MOST_MILES + 1;

        long above = 0;
        long below = 1;
        private final int[] chosen = new int[MOST_DAYS];
        private int[] survives = null;
        private long[] cases = null;

        Planner() {
            Arrays.fill(chosen, NONE);
        }

        int milesOn(int k) {
            return k < 0 || k >= MOST_DAYS ? NONE : chosen[k];
        }

        void think(Land land, Folk folk, int m) {
            // Few runs ask for a PLAN: its rows are made when the first one does.
            if (cases == null || survives == null) {
                cases = new long[(MOST_DAYS + 1) * MILESTONES];
                survives = new int[MILESTONES];
            }
            int days = Math.min(MOST_DAYS, folk.daysYet(m));
            int all = Math.min(MOST_MILES, folk.allMiles(land, m));
            int from = Math.min(all, folk.of(m, Folk.GONE));
            int pace = land.ofMan(m, Land.PACE);
            weighMilestones(land, folk, m);
            long whole = 1;
            for (int left = 0; left <= days; left++) {
                weighDay(left, from, Math.min(all - 1, from + (days - left) * pace), all, pace);
                cases[index(left, all)] = whole;
                if (left < days) {
                    whole *= 12;
                }
            }
            choose(days, from, all, pace, folk.of(m, Folk.NIGHTS) > 0);
            above = cases[index(days, from)];
            below = whole;
            long common = commonDivisor(above, below);
            above /= common;
            below /= common;
        }

        private static int index(int left, int milestone) {
            return left * MILESTONES + milestone;
        }

        /** Of 12 draws for who ends a DAY at a milestone, how many leave him alive. */
        private void weighMilestones(Land land, Folk folk, int m) {
            int goal = folk.of(m, Folk.GOAL);
            int at = folk.of(m, Folk.HOME);
            int passed = 0;
            for (int k = 0; k < MOST_PLACES && at != goal && land.roadToward(at, goal) != NONE; k++) {
                int length = Math.min(MOST_MILES - passed, land.ofRoad(land.roadToward(at, goal), Land.LENGTH));
                int alive = 12 - folk.dangerFor(land, m, at);
                survives[passed] = 12;
                for (int i = 1; i < length; i++) {
                    survives[passed + i] = alive;
                }
                passed += length;
                at = land.nextTo(at, goal);
            }
            survives[passed] = 12;
        }

        private void weighDay(int left, int from, int to, int all, int pace) {
            for (int at = from; at <= to; at++) {
                long best = 0;
                for (int n = 1; n <= pace && at + n <= all && left > 0; n++) {
                    best = Math.max(best, worth(left, at, n));
                }
                cases[index(left, at)] = best;
            }
        }

        private long worth(int left, int at, int n) {
            return survives[at + n] * cases[index(left - 1, at + n)];
        }

        /** Where no plan brings him there all are alike, and the first goes as little as it may. */
        private void choose(int days, int from, int all, int pace, boolean rested) {
            Arrays.fill(chosen, NONE);
            int at = from;
            int n = rested ? 0 : 1;
            boolean hopeless = cases[index(days, from)] == 0;
            for (int k = 0; k < days && k < MOST_DAYS && at < all; k++) {
                int left = days - k;
                n = n == 0 ? 1 : 0;
                while (!hopeless && n < pace && at + n < all && worth(left, at, n) != cases[index(left, at)]) {
                    n++;
                }
                chosen[k] = n;
                at += n;
            }
        }
    }

    /** SENT: by port after port, over the sets of MEN; the ports are the lower digits of a sum, so the first one wins. */
    private static final class Sender {
        static final int SETS = 1 << MOST_MEN;
        static final long A_MILE = 1000000;
        static final long NEVER = 1000000000000L;

        private final int[] ports = new int[MOST_MEN];
        private final long[] best = new long[SETS];
        private final long[] costs = new long[SETS];

        Sender() {
            Arrays.fill(ports, NONE);
        }

        /** What was told last stays, whichever MEN the LAND has now. */
        int portOf(int m) {
            return m < 0 || m >= MOST_MEN ? NONE : ports[m];
        }

        int send(Land land, Folk folk) {
            int all = folk.menWho(land.men, SAFE);
            Arrays.fill(best, NEVER);
            best[0] = 0;
            for (int p = 0; p < land.places; p++) {
                if (land.isPort(p)) {
                    weigh(land, folk, p, all);
                    spread(all, land.ofPlace(p, Land.HOLDS));
                }
            }
            if (best[all] >= NEVER) {
                return NONE;
            }
            long digits = best[all] % A_MILE;
            for (int m = MOST_MEN - 1; m >= 0; m--) {
                ports[m] = (all >> m & 1) == 1 ? (int) (digits % 10) : NONE;
                digits /= 10;
            }
            return (int) (best[all] / A_MILE);
        }

        /** What each set of MEN costs at a port. */
        private void weigh(Land land, Folk folk, int p, int all) {
            costs[0] = 0;
            long place = A_MILE;
            for (int m = 0; m < MOST_MEN; m++) {
                int bit = 1 << m;
                place /= 10;
                long cost = NEVER;
                if ((all & bit) != 0 && land.joined(folk.of(m, Folk.HOME), p)) {
                    cost = land.milesBetween(folk.of(m, Folk.HOME), p) * A_MILE + p * place;
                }
                for (int set = 0; set < bit; set++) {
                    costs[set | bit] = costs[set] + cost;
                }
            }
        }

        /** From the greatest set down, as each one looks at the lesser ones without this port. */
        private void spread(int all, int holds) {
            for (int set = all; set > 0; set--) {
                if ((set & ~all) != 0) {
                    continue;
                }
                long least = best[set];
                for (int part = set; part > 0; part = (part - 1) & set) {
                    if (Integer.bitCount(part) <= holds) {
                        least = Math.min(least, costs[part] + best[set & ~part]);
                    }
                }
                best[set] = least;
            }
        }
    }

    /** CUT: as many as ways that share no road; then from the highest road down, what need not be cut is kept. */
    private static final class Cutter {
        static final int MOST_CUT = 4;

        int latest = NONE;
        private final int[] flows = new int[MOST_ROADS];
        private final int[] cameBy = new int[MOST_PLACES];
        private final int[] queue = new int[MOST_PLACES];

        int part(Land land, int a, int b) {
            int fewest = flow(land, a, b, 0, MOST_CUT + 1);
            if (fewest > MOST_CUT) {
                return NONE;
            }
            int keep = 0;
            for (int r = land.roads - 1; r >= 0; r--) {
                int tried = keep | 1 << r;
                if (flow(land, a, b, tried, fewest + 1) == fewest) {
                    keep = tried;
                }
            }
            latest = (1 << land.roads) - 1 & ~keep;
            return fewest;
        }

        /** How many at most go from a to b, one by each road that is not kept; enough is enough. */
        private int flow(Land land, int a, int b, int keep, int enough) {
            Arrays.fill(flows, 0);
            int n = 0;
            while (n < enough && search(land, a, b, keep)) {
                push(land, a, b);
                n++;
            }
            return n;
        }

        private boolean search(Land land, int a, int b, int keep) {
            Arrays.fill(cameBy, NONE);
            queue[0] = a;
            int size = 1;
            for (int k = 0; k < size && k < MOST_PLACES; k++) {
                int from = queue[k];
                for (int r = 0; r < land.roads; r++) {
                    int to = openEnd(land, r, from, keep);
                    if (to != NONE && to != a && cameBy[to] == NONE && size < MOST_PLACES) {
                        cameBy[to] = r;
                        queue[size] = to;
                        size++;
                    }
                }
                if (cameBy[b] != NONE) {
                    return true;
                }
            }
            return false;
        }

        /** The other end of a road, if it begins at a PLACE and one more can go along it. */
        private int openEnd(Land land, int r, int from, int keep) {
            int room = (keep >> r & 1) == 1 ? MOST_CUT + 1 : 1;
            if (land.ofRoad(r, Land.ONE_END) == from) {
                return flows[r] < room ? land.ofRoad(r, Land.OTHER_END) : NONE;
            }
            if (land.ofRoad(r, Land.OTHER_END) == from) {
                return -flows[r] < room ? land.ofRoad(r, Land.ONE_END) : NONE;
            }
            return NONE;
        }

        private void push(Land land, int a, int b) {
            int at = b;
            for (int k = 0; k < MOST_PLACES && at != a && at != NONE && cameBy[at] != NONE; k++) {
                int r = cameBy[at];
                if (land.ofRoad(r, Land.OTHER_END) == at) {
                    flows[r]++;
                    at = land.ofRoad(r, Land.ONE_END);
                } else {
                    flows[r]--;
                    at = land.ofRoad(r, Land.OTHER_END);
                }
            }
        }
    }

    /** The milestones at which a MAN can have turned. */
    private static final class Tracker {
        static final int FEWEST_BYTES = 2;
        static final int MOST_BYTES = 20;

        int least = NONE;
        int greatest = NONE;
        private final int[] seen = new int[MOST_BYTES];
        private final byte[] marks = new byte[MOST_MILES + 1];

        int track(Reader in, int pace, int miles) {
            int n = in.length;
            if (n < FEWEST_BYTES || n > MOST_BYTES) {
                return NONE;
            }
            for (int k = 0; k < n; k++) {
                seen[k] = in.tape[k] & 255;
                if (seen[k] > miles) {
                    return NONE;
                }
            }
            Arrays.fill(marks, (byte) 0);
            for (int k = 0; k + 1 < n; k++) {
                if (goesOnTo(k, pace) && goesBackFrom(k + 1, n, pace)) {
                    mark(seen[k], seen[k + 1], pace, miles);
                }
            }
            return tell(miles);
        }

        private boolean goesOnTo(int last, int pace) {
            for (int k = 0; k < last; k++) {
                int on = seen[k + 1] - seen[k];
                if (on < 0 || on > pace) {
                    return false;
                }
            }
            return true;
        }

        private boolean goesBackFrom(int first, int n, int pace) {
            for (int k = first; k + 1 < n; k++) {
                int back = seen[k] - seen[k + 1];
                if (back < 0 || back > pace) {
                    return false;
                }
            }
            return true;
        }

        private void mark(int before, int after, int pace, int miles) {
            for (int at = Math.max(before, after); at <= miles && at <= MOST_MILES; at++) {
                if (at - before + at - after <= pace) {
                    marks[at] = 1;
                }
            }
        }

        private int tell(int miles) {
            int found = 0;
            int first = NONE;
            int last = NONE;
            for (int at = 0; at <= miles && at <= MOST_MILES; at++) {
                if (marks[at] == 1) {
                    found++;
                    first = first == NONE ? at : first;
                    last = at;
                }
            }
            if (found > 0) {
                least = first;
                greatest = last;
            }
            return found;
        }
    }

    /** Writes an OATH. */
    private static final class Scribe {
        /** Two NAMES, four signs between them, a blank and two digits are fewer. */
        static final int MOST_BYTES = 32;

        final byte[] text = new byte[MOST_BYTES];
        int length = 0;

        int write(Land land, Folk folk, int m) {
            length = 0;
            name(land.nameOfMan(m));
            switch (folk.of(m, Folk.HOW)) {
                case SAFE:
                    words(" in ");
                    name(land.nameOfPlace(folk.of(m, Folk.HOME)));
                    break;
                case WALKS:
                    words(" to ");
                    name(land.nameOfPlace(folk.of(m, Folk.GOAL)));
                    words(" ");
                    digits(folk.daysYet(m));
                    break;
                case WAITS: words(" waits"); break;
                case SAILED: words(" sailed"); break;
                case OUTLAW: words(" outlaw"); break;
                default: words(" slain"); break;
            }
            return length;
        }

        private void sign(int c) {
            if (length < MOST_BYTES) {
                text[length] = (byte) c;
                length++;
            }
        }

        private void words(String words) {
            for (int i = 0; i < words.length(); i++) {
                sign(words.charAt(i));
            }
        }

        /** A NAME is a number whose digits are its letters, each of five bits. */
        private void name(long letters) {
            for (int shift = 30; shift >= 0; shift -= 5) {
                int letter = (int) (letters >>> shift) & 31;
                if (letter != 0) {
                    sign('a' + letter - 1);
                }
            }
        }

        private void digits(int n) {
            if (n >= 10) {
                sign('0' + n / 10);
            }
            sign('0' + n % 10);
        }
    }
}
