import java.util.ArrayList;
import java.util.List;
import java.util.Random;

/** Texts of all three kinds, most of them right, some with something wrong in them. */
final class Texts {
    private static final String[] PLACE_NAMES = {"abbey", "york", "dover", "rye", "bath", "ely", "a", "hull", "zzzzzzz", "wells",
        "deal", "in"};
    private static final String[] MAN_NAMES = {"tom", "kim", "joan", "ned", "b", "wat", "hob", "abbeys"};
    private static final String[] ODD_TOKENS = {"church", "inn", "port", "road", "ford", "man", "kin", "swears", "orders", "slips",
        "enters", "gets", "day", "or", "and", "not", "safe", "to", "at", "days", "number", ";", "<", "=", ">", "(", ")", "0", "1",
        "13", "99", "100", "31", "41", "999", "1000", "007", "x", "tom", "rye", "abcdefgh", "a1", "1a", ".", "A", "\t", "\u00e9"};

    private final Random random;

    Texts(Random random) {
        this.random = random;
    }

    private int from(int low, int high) {
        return low + random.nextInt(high - low + 1);
    }

    private String pick(String... words) {
        return words[random.nextInt(words.length)];
    }

    String land() {
        List<String> tokens = new ArrayList<>();
        int places = random.nextInt(30) == 0 ? 11 : from(2, 10);
        int men = random.nextInt(30) == 0 ? 7 : from(1, 6);
        int wide = pick("", "x").isEmpty() ? 30 : from(1, 5);
        int risk = pick("", "x").isEmpty() ? 12 : from(0, 4);
        int pace = random.nextBoolean() ? 20 : from(1, 5);
        List<Integer> churches = new ArrayList<>();
        for (int p = 0; p < places; p++) {
            int sort = p == 0 ? 0 : p == 1 ? 2 : random.nextInt(3);
            add(tokens, sort == 0 ? "church" : sort == 1 ? "inn" : "port", PLACE_NAMES[p % PLACE_NAMES.length]);
            if (sort == 0) {
                churches.add(p);
            }
            if (sort == 2) {
                add(tokens, "" + from(0, 12), "" + (random.nextBoolean() ? 0 : from(0, 99)), "" + from(1, random.nextBoolean() ? 2 : 6));
            }
            tokens.add(";");
        }
        roads(tokens, places, wide, risk);
        for (int m = 0; m < men; m++) {
            int church = churches.get(random.nextInt(churches.size()));
            add(tokens, "man", MAN_NAMES[m], PLACE_NAMES[church], "" + from(1, pace), "" + from(0, 99), ";");
        }
        for (int m = 0; m < men; m++) {
            if (random.nextInt(3) == 0) {
                add(tokens, "kin", MAN_NAMES[m], ";");
            }
        }
        return written(tokens, 900);
    }

    private void roads(List<String> tokens, int places, int wide, int risk) {
        int roads = random.nextInt(20) == 0 ? 17 : from(0, 16);
        List<String> told = new ArrayList<>();
        for (int tries = 0; tries < 60 && told.size() < roads; tries++) {
            int a = random.nextInt(places);
            int b = tries < places - 1 && random.nextInt(8) != 0 ? tries + 1 : random.nextInt(places);
            String both = Math.min(a, b) + "-" + Math.max(a, b);
            if (a == b || told.contains(both)) {
                continue;
            }
            told.add(both);
            add(tokens, "road", PLACE_NAMES[a % 12], PLACE_NAMES[b % 12], "" + from(1, wide), "" + from(0, risk));
            if (random.nextInt(4) == 0) {
                tokens.add("ford");
            }
            tokens.add(";");
        }
    }

    private String man(Model.Country land) {
        return land.men.isEmpty() || random.nextInt(40) == 0 ? pick("tom", "rye") : land.men.get(random.nextInt(land.men.size())).name();
    }

    private String place(Model.Country land, boolean port) {
        for (int k = 0; k < 20 && !land.places.isEmpty(); k++) {
            Model.Place p = land.places.get(random.nextInt(land.places.size()));
            if (!port || p.sort() == 2 || random.nextInt(40) == 0) {
                return p.name();
            }
        }
        return pick("rye", "tom");
    }

    String book(Model.Country land) {
        List<String> tokens = new ArrayList<>();
        int lines = random.nextInt(15) == 0 ? from(35, 43) : from(0, 9);
        for (int k = 0; k < lines; k++) {
            if (random.nextInt(3) == 0) {
                add(tokens, "day", "" + from(1, random.nextBoolean() ? 3 : 30), ";");
                continue;
            }
            tokens.add(man(land));
            switch (random.nextInt(lines > 30 ? 2 : 6)) {
                case 0 -> add(tokens, "gets", "" + from(1, 99));
                case 1 -> add(tokens, pick("slips", "enters"));
                case 2 -> add(tokens, "orders", "" + from(0, 20));
                default -> add(tokens, "swears", place(land, true), "" + from(1, 40));
            }
            tokens.add(";");
        }
        return written(tokens, 400);
    }

    String sentence(Model.Country land) {
        List<String> tokens = new ArrayList<>();
        cond(land, tokens, random.nextInt(10) == 0 ? 9 : from(0, 6));
        return written(tokens, 200);
    }

    private void cond(Model.Country land, List<String> tokens, int depth) {
        int ones = random.nextInt(20) == 0 ? from(15, 22) : from(1, 3);
        for (int k = 0; k < ones; k++) {
            if (k > 0) {
                tokens.add(pick("and", "or"));
            }
            one(land, tokens, k == 0 ? depth : random.nextInt(2));
        }
    }

    private void one(Model.Country land, List<String> tokens, int depth) {
        if (depth > 0 && random.nextInt(6) != 0) {
            if (random.nextBoolean()) {
                tokens.add("not");
                one(land, tokens, depth - 1);
            } else {
                tokens.add("(");
                cond(land, tokens, depth - 1);
                tokens.add(")");
            }
            return;
        }
        switch (random.nextInt(4)) {
            case 0 -> tokens.add(pick("safe", "walks", "waits", "sailed", "outlaw", "slain", "kin"));
            case 1 -> add(tokens, pick("to", "at"), place(land, random.nextBoolean()));
            case 2 -> add(tokens, pick("coin", "miles"), pick("<", "=", ">"), "" + from(0, 120));
            default -> add(tokens, pick("days", "number"), pick("<", "=", ">"), "" + from(0, 5));
        }
    }

    private static void add(List<String> tokens, String... more) {
        tokens.addAll(List.of(more));
    }

    private String written(List<String> tokens, int most) {
        if (random.nextInt(3) == 0) {
            for (int n = from(1, 2); n > 0 && !tokens.isEmpty(); n--) {
                spoil(tokens);
            }
        }
        boolean loose = random.nextInt(4) == 0;
        StringBuilder text = new StringBuilder();
        for (int k = 0; k < tokens.size(); k++) {
            String token = tokens.get(k);
            boolean needsBlank = k > 0 && tokens.get(k - 1).matches("[a-z0-9]+") && token.matches("[a-z0-9]+");
            if (needsBlank || loose) {
                text.append(pick(" ", "\n", loose ? "  " : " "));
            }
            text.append(token);
        }
        if (random.nextInt(12) == 0) {
            int at = random.nextInt(text.length() + 1);
            for (int end = most + from(-3, 12); text.length() < end; ) {
                if (at == 0 || at == text.length() || !String.valueOf(text.charAt(at)).matches("[a-z0-9]")) {
                    text.insert(at, ' ');
                } else {
                    at--;
                }
            }
        }
        return text.toString();
    }

    private void spoil(List<String> tokens) {
        int k = random.nextInt(tokens.size());
        switch (random.nextInt(5)) {
            case 0 -> tokens.remove(k);
            case 1 -> tokens.add(k, tokens.get(random.nextInt(tokens.size())));
            case 2 -> tokens.add(k, pick(ODD_TOKENS));
            case 3 -> tokens.subList(k, tokens.size()).clear();
            default -> tokens.set(k, pick(ODD_TOKENS));
        }
    }
}
