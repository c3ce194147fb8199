import java.util.ArrayList;
import java.util.HashMap;
import java.util.HashSet;
import java.util.List;
import java.util.Map;
import java.util.Random;
import java.util.Set;
import java.util.regex.Matcher;
import java.util.regex.Pattern;

/** Random texts, with FAULTS and without, each held against a second reader that is made otherwise (fixed seeds). */
public final class TextModelTest {
    private static final Kit KIT = new Kit();
    private static final Pattern RUN = Pattern.compile("[a-z0-9]+");
    private static final Set<String> TOLD_HERE = Set.of("wall", "house", "outside", "drain", "crest", "gauge", "people",
        "sand", "rate", "post", "quit", "up", "hour", "or", "and", "not", "flooded", "upped", "safe", "behind", "worth",
        "floor", "number");
    private static final String[] NAMES = {"a", "b", "c", "d", "e", "f", "aa", "zzzzzzz", "ab", "ba", "walls", "left", "mill", "sink"};
    private static final int[] NUMBERS = {0, 0, 1, 1, 2, 20, 21, 24, 25, 40, 41, 47, 48, 60, 61, 99, 100, 999, 1000};
    private static final String[] ODD = {"?", ".", "(", ")", "<", "=", ">", ";", "wall", "or", "not", "0", "0000", "abcdefgh",
        "A", "1a", "a1", "\t", "outside", "hour", "\u00ff", "\u0000"};

    public static void main(String[] args) {
        for (int seed = 0; seed < 6000; seed++) {
            KIT.part("seed " + seed);
            Random random = new Random(seed);
            streets(random);
            books(random);
            sentences(random);
        }
        KIT.yes("texts without a FAULT were met", fine > 2000);
        for (int kind = 1; kind <= 4; kind++) {
            KIT.yes("texts with a FAULT " + kind + " were met", faults[kind] > 100);
        }
        KIT.finish();
    }

    private static int fine;
    private static final int[] faults = new int[5];

    /** The first FAULT of a text. */
    private static final class Fault extends RuntimeException {
        private static final long serialVersionUID = 1;
        final int place;
        final int kind;

        Fault(int place, int kind) {
            this.place = place;
            this.kind = kind;
        }
    }

    private record Token(int place, String text) {
        boolean isWord() {
            return text.matches("[a-z]{1,7}");
        }

        boolean isNumber() {
            return text.matches("[0-9]{1,3}");
        }
    }

    /** All TOKENS of a text at once; the last one is its end, which nothing else is like. */
    private static final class Reader {
        final List<Token> tokens = new ArrayList<>();
        int at;
        final Map<String, Character> sorts = new HashMap<>();
        final Map<String, Integer> numbers = new HashMap<>();

        Reader(String text, int most) {
            Matcher run = RUN.matcher(text);
            int place = 0;
            while (place < text.length() && (text.length() <= most || place < most)) {
                char c = text.charAt(place);
                if (c == ' ' || c == '\n') {
                    place++;
                } else if (run.find(place) && run.start() == place) {
                    tokens.add(new Token(place, run.group()));
                    place = run.end();
                } else {
                    tokens.add(new Token(place, "" + c));
                    place++;
                }
            }
            tokens.add(new Token(Math.min(text.length(), most), text.length() > most ? "over" + text.length() : ""));
        }

        Token peek() {
            return tokens.get(at);
        }

        boolean atEnd() {
            return peek().text.isEmpty();
        }

        boolean at(String text) {
            return peek().text.equals(text);
        }

        Fault fault(int kind) {
            return new Fault(peek().place, kind);
        }

        String oneOf(String words) {
            if (!Set.of(words.split(" ")).contains(peek().text)) {
                throw fault(1);
            }
            return tokens.get(at++).text;
        }

        int number(int least, int most) {
            if (!peek().isNumber()) {
                throw fault(1);
            }
            int value = Integer.parseInt(peek().text);
            if (value < least || value > most) {
                throw fault(2);
            }
            at++;
            return value;
        }

        String name() {
            if (!peek().isWord() || TOLD_HERE.contains(peek().text)) {
                throw fault(1);
            }
            return peek().text;
        }

        void newName(char sort, int number) {
            String name = name();
            if (sorts.putIfAbsent(name, sort) != null) {
                throw fault(3);
            }
            numbers.put(name, number);
            at++;
        }

        String knownName(String fitting) {
            String name = name();
            if (fitting.indexOf(sorts.getOrDefault(name, '?')) < 0) {
                throw fault(3);
            }
            at++;
            return name;
        }
    }

    /** What a STREET's text tells, or a Fault. */
    private static final class Told {
        final List<int[]> walls = new ArrayList<>();
        final List<int[]> houses = new ArrayList<>();
        final List<int[]> drains = new ArrayList<>();
        final Map<Integer, Integer> crests = new HashMap<>();
        final Map<Integer, Integer> gauges = new HashMap<>();
        final Map<String, Integer> once = new HashMap<>(Map.of("people", 10, "sand", 900, "rate", 11));
        int lines;

        Told(String text) {
            Reader in = new Reader(text, 900);
            Set<String> met = new HashSet<>();
            while (!in.atEnd()) {
                int place = in.peek().place;
                String sort = in.oneOf("wall house drain crest gauge people sand rate");
                int most = Map.of("wall", 5, "house", 10, "drain", 6, "crest", 6, "gauge", 8).getOrDefault(sort, 99);
                int many = Map.of("wall", walls.size(), "house", houses.size(), "drain", drains.size(), "crest", crests.size(),
                    "gauge", gauges.size()).getOrDefault(sort, 0);
                if (many == most) {
                    throw new Fault(place, 4);
                }
                if (once.containsKey(sort) && !met.add(sort)) {
                    throw new Fault(place, 3);
                }
                line(in, sort);
                in.oneOf(";");
                lines++;
            }
        }

        private void line(Reader in, String sort) {
            switch (sort) {
                case "wall" -> {
                    in.newName('w', walls.size());
                    walls.add(new int[] {in.number(1, 20)});
                }
                case "house" -> {
                    in.newName('h', houses.size());
                    int wall = in.at("outside") ? -1 : in.numbers.get(in.knownName("w"));
                    in.at += wall < 0 ? 1 : 0;
                    houses.add(new int[] {wall, in.number(1, 99), in.number(0, 60)});
                }
                case "drain" -> {
                    in.newName('d', drains.size());
                    int wall = in.numbers.get(in.knownName("w"));
                    drains.add(new int[] {wall, in.number(0, 60), in.number(1, 40)});
                }
                case "crest" -> pair(in, crests, 60, 1, 99);
                case "gauge" -> pair(in, gauges, 47, 0, 60);
                case "people" -> once.put(sort, in.number(1, 60));
                case "sand" -> once.put(sort, in.number(0, 999));
                default -> once.put(sort, in.number(1, 20));
            }
        }

        private static void pair(Reader in, Map<Integer, Integer> pairs, int mostKey, int least, int most) {
            int key = in.number(0, mostKey);
            if (pairs.containsKey(key)) {
                in.at--;
                throw in.fault(3);
            }
            pairs.put(key, in.number(least, most));
        }
    }

    private static void met(int kind) {
        fine += kind == 0 ? 1 : 0;
        faults[kind]++;
    }

    private static void streets(Random random) {
        String text = worn(random, streetText(random), 900);
        BagsRiver x = Kit.on("wall keep 3;");
        int answer = Kit.street(x, text);
        try {
            Told told = new Told(text);
            KIT.same("street <" + text + ">", answer, told.lines);
            KIT.same("fault of <" + text + ">", x.fault(), 0);
            compare(x, told, text);
            met(0);
        } catch (Fault f) {
            KIT.same("street <" + text + ">", answer, -1 - f.place);
            KIT.same("fault of <" + text + ">", x.fault(), f.kind);
            KIT.same("the STREET stays", x.wall(0, 0), 3);
            met(f.kind);
        }
    }

    private static void compare(BagsRiver x, Told told, String text) {
        int[] counts = {told.walls.size(), told.houses.size(), told.drains.size(), told.crests.size(), told.once.get("people"),
            told.once.get("rate"), 0};
        for (int i = 0; i < counts.length; i++) {
            KIT.same("count(" + i + ") of <" + text + ">", x.count(i), counts[i]);
        }
        KIT.same("sand of <" + text + ">", x.now(2), told.once.get("sand"));
        for (int w = 0; w < counts[0]; w++) {
            KIT.same("WIDE of <" + text + ">", x.wall(w, 0), told.walls.get(w)[0]);
        }
        for (int i = 0; i < 3; i++) {
            for (int h = 0; h < counts[1]; h++) {
                KIT.same("HOUSE of <" + text + ">", x.house(h, i), told.houses.get(h)[i]);
            }
            for (int d = 0; d < counts[2]; d++) {
                KIT.same("DRAIN of <" + text + ">", x.drain(d, i), told.drains.get(d)[i]);
            }
        }
        int all = told.crests.values().stream().mapToInt(i -> i).sum();
        for (int inch = 0; inch <= 60 && all > 0; inch += 20) {
            int most = inch;
            int some = told.crests.entrySet().stream().filter(e -> e.getKey() <= most).mapToInt(e -> e.getValue()).sum();
            KIT.same("sure of <" + text + ">", (long) x.sure(inch, 0, 0) * all, (long) x.sure(inch, 0, 1) * some);
        }
        int river = 0;
        for (int hour = 0; hour < 48; hour++) {
            river = told.gauges.getOrDefault(hour, river);
            KIT.same("RIVER of <" + text + ">", x.now(1), river);
            x.hours(1);
        }
    }

    private static String any(Random random, String[] of) {
        return of[random.nextInt(of.length)];
    }

    /** Mostly a NUMBER that may be there. */
    private static String number(Random random, int least, int most) {
        int value = NUMBERS[random.nextInt(NUMBERS.length)];
        if ((value < least || value > most) && random.nextInt(60) != 0) {
            value = least + random.nextInt(most - least + 1);
        }
        return (random.nextInt(20) == 0 ? "0" : "") + value;
    }

    private static String streetText(Random random) {
        StringBuilder text = new StringBuilder();
        List<String> walls = new ArrayList<>();
        int lines = random.nextInt(random.nextBoolean() ? 12 : 40);
        int names = 0;
        for (int i = 0; i < lines; i++) {
            String name = random.nextInt(80) == 0 ? any(random, NAMES) : "n" + (char) ('a' + names / 26) + (char) ('a' + names++ % 26);
            String wall = walls.isEmpty() || random.nextInt(60) == 0 ? any(random, NAMES) : walls.get(random.nextInt(walls.size()));
            switch (random.nextInt(14)) {
                case 0: case 1:
                    text.append("wall ").append(name).append(' ').append(number(random, 1, 20));
                    walls.add(name);
                    break;
                case 2: case 3: case 4:
                    boolean outside = walls.isEmpty() || random.nextInt(3) == 0;
                    text.append("house ").append(name).append(' ').append(outside ? "outside" : wall).append(' ')
                        .append(number(random, 1, 99)).append(' ').append(number(random, 0, 60));
                    break;
                case 5: case 6:
                    if (walls.isEmpty() && random.nextInt(9) != 0) {
                        continue;
                    }
                    text.append("drain ").append(name).append(' ').append(wall).append(' ')
                        .append(number(random, 0, 60)).append(' ').append(number(random, 1, 40));
                    break;
                case 7: case 8:
                    text.append("crest ").append(number(random, 0, 60)).append(' ').append(number(random, 1, 99));
                    break;
                case 9: case 10: case 11:
                    text.append("gauge ").append(number(random, 0, 47)).append(' ').append(number(random, 0, 60));
                    break;
                default:
                    if (random.nextInt(4) != 0) {
                        continue;
                    }
                    int sort = random.nextInt(3);
                    text.append(sort == 0 ? "people " + number(random, 1, 60) : sort == 1 ? "sand " + number(random, 0, 999)
                        : "rate " + number(random, 1, 20));
                    break;
            }
            text.append(';');
        }
        return text.toString();
    }

    /** Now and then something is put in, left out or changed, and a text is made long. */
    private static String worn(Random random, String text, int most) {
        StringBuilder worn = new StringBuilder(text);
        for (int i = random.nextInt(4) == 0 ? 1 + random.nextInt(2) : 0; i > 0; i--) {
            int place = random.nextInt(worn.length() + 1);
            int kind = random.nextInt(4);
            if (kind == 0) {
                worn.insert(place, any(random, ODD));
            } else if (kind == 1 && place < worn.length()) {
                worn.deleteCharAt(place);
            } else if (kind == 2 && place < worn.length()) {
                worn.setCharAt(place, any(random, ODD).charAt(0));
            } else {
                worn.setLength(place);
            }
        }
        for (int i = 0; i < worn.length(); i++) {
            if (worn.charAt(i) == ' ' && random.nextInt(30) == 0) {
                worn.insert(i, random.nextBoolean() ? "\n" : "  ");
                i += 2;
            }
        }
        if (random.nextInt(8) == 0 && worn.length() < most) {
            int place = random.nextInt(worn.length() + 1);
            worn.insert(place, Kit.repeat(" ", most - worn.length() + random.nextInt(12) - 5));
        }
        if (worn.length() > 940) {
            worn.setLength(940);
        }
        return worn.toString();
    }

    private static Reader onStreet(String text, int most) {
        Reader in = new Reader(text, most);
        String[] walls = {"left", "right"};
        String[] houses = {"mill", "shop", "inn", "hut", "hall"};
        for (int i = 0; i < 5; i++) {
            in.sorts.put(houses[i], 'h');
            if (i < 2) {
                in.sorts.put(walls[i], 'w');
                in.numbers.put(walls[i], i);
            }
        }
        in.sorts.put("sink", 'd');
        return in;
    }

    private static void books(Random random) {
        StringBuilder made = new StringBuilder();
        int lines = random.nextInt(4) == 0 ? 36 + random.nextInt(10) : random.nextInt(16);
        for (int i = 0; i < lines; i++) {
            int sort = lines > 30 ? 3 : random.nextInt(4);
            String wrong = random.nextInt(60) == 0 ? any(random, NAMES) : null;
            if (sort == 0) {
                made.append("post ").append(number(random, 0, 60)).append(' ').append(number(random, 0, 60)).append(' ')
                    .append(wrong != null ? wrong : any(random, new String[] {"left", "right", "sink"}));
            } else if (sort == 1) {
                made.append("quit ").append(wrong != null ? wrong : any(random, new String[] {"left", "right"}));
            } else if (sort == 2) {
                made.append("up ").append(wrong != null ? wrong : any(random, new String[] {"mill", "shop", "inn", "hut", "hall"}));
            } else {
                made.append("hour ").append(number(random, 1, 24));
            }
            made.append(';');
        }
        String text = worn(random, made.toString(), 400);
        BagsRiver x = Kit.on(Kit.STREET);
        int answer = Kit.book(x, text, 0);
        try {
            readBook(onStreet(text, 400));
            KIT.yes("book <" + text + "> has no FAULT", answer >= -1);
            KIT.same("fault of book <" + text + ">", x.fault(), 0);
            met(0);
        } catch (Fault f) {
            KIT.same("book <" + text + ">", answer, -2 - f.place);
            KIT.same("fault of book <" + text + ">", x.fault(), f.kind);
            met(f.kind);
        }
    }

    private static void readBook(Reader in) {
        for (int lines = 0; !in.atEnd(); lines++) {
            int place = in.peek().place;
            String verb = in.oneOf("post quit up hour");
            if (lines == 40) {
                throw new Fault(place, 4);
            }
            if (verb.equals("hour")) {
                in.number(1, 24);
            } else if (verb.equals("post")) {
                in.number(0, 60);
                in.number(0, 60);
                in.knownName("wd");
            } else {
                in.knownName(verb.equals("quit") ? "w" : "h");
            }
            in.oneOf(";");
        }
    }

    private static void sentences(Random random) {
        StringBuilder made = new StringBuilder();
        condition(random, made, random.nextInt(9));
        String text = worn(random, made.toString(), 200);
        int acts = random.nextInt(7);
        BagsRiver x = lived(acts);
        int answer = Kit.sentence(x, text);
        try {
            Said said = new Said(onStreet(text, 200), x, safe(acts));
            KIT.same("sentence <" + text + ">", answer, said.ones);
            KIT.same("fault of sentence <" + text + ">", x.fault(), 0);
            KIT.same("said of <" + text + ">", Kit.saidBits(x), said.bits);
            met(0);
        } catch (Fault f) {
            KIT.same("sentence <" + text + ">", answer, -1 - f.place);
            KIT.same("fault of sentence <" + text + ">", x.fault(), f.kind);
            KIT.same("no SENTENCE", x.said(-1), -1);
            met(f.kind);
        }
    }

    private static BagsRiver lived(int hours) {
        BagsRiver x = Kit.on(Kit.STREET);
        x.post(8, 4, 0);
        x.up(1);
        if (hours > 0) {
            x.hours(hours);
        }
        x.up(3);
        return x;
    }

    /** What is safe as all is: with nobody posted the next HOUR floods nothing else. */
    private static int safe(int hours) {
        BagsRiver x = lived(hours);
        x.post(0, 0, 0);
        x.hours(1);
        return 31 & ~x.now(6);
    }

    private static void condition(Random random, StringBuilder text, int depth) {
        int parts = depth == 0 ? 1 : 1 + random.nextInt(random.nextInt(12) == 0 ? 20 : 3);
        for (int i = 0; i < parts; i++) {
            if (i > 0) {
                text.append(random.nextBoolean() ? " or " : " and ");
            }
            int sort = random.nextInt(10);
            if (sort < 2 && depth > 0) {
                text.append("(");
                condition(random, text, depth - 1);
                text.append(")");
            } else if (sort < 4 && depth > 0) {
                text.append(Kit.repeat("not ", random.nextInt(12) == 0 ? 8 : 1));
                condition(random, text, 0);
            } else if (sort < 6) {
                String sign = any(random, new String[] {"<", "=", ">"});
                text.append(any(random, new String[] {"worth", "floor", "number"})).append(sign)
                    .append(random.nextInt(4) == 0 ? number(random, 0, 999) : "" + random.nextInt(12));
            } else if (sort < 7) {
                text.append("behind ").append(random.nextInt(12) == 0 ? any(random, NAMES) : any(random, new String[] {"left", "right"}));
            } else {
                text.append(any(random, new String[] {"flooded", "upped", "outside", "safe"}));
            }
        }
    }

    /** A SENTENCE that is reckoned while it is read, for each HOUSE anew. */
    private static final class Said {
        private final Reader in;
        private final BagsRiver x;
        private final int safe;
        private int house;
        int ones;
        int bits;

        Said(Reader in, BagsRiver x, int safe) {
            this.in = in;
            this.x = x;
            this.safe = safe;
            for (house = 0; house < 5; house++) {
                in.at = 0;
                ones = 0;
                bits |= cond(1) ? 1 << house : 0;
                if (!in.atEnd()) {
                    throw in.fault(1);
                }
            }
        }

        private boolean cond(int depth) {
            boolean is = all(depth);
            while (in.at("or")) {
                in.at++;
                is |= all(depth);
            }
            return is;
        }

        private boolean all(int depth) {
            boolean is = one(depth);
            while (in.at("and")) {
                in.at++;
                is &= one(depth);
            }
            return is;
        }

        private boolean one(int depth) {
            int place = in.peek().place;
            String first = in.oneOf("not ( flooded upped outside safe behind worth floor number");
            if (ones++ == 20 || depth == 9) {
                throw new Fault(place, 4);
            }
            switch (first) {
                case "not":
                    return !one(depth + 1);
                case "(":
                    boolean is = cond(depth + 1);
                    in.oneOf(")");
                    return is;
                case "behind":
                    return in.numbers.get(in.knownName("w")) == x.house(house, 0);
                case "flooded":
                    return x.house(house, 3) == 1;
                case "upped":
                    return x.house(house, 5) == 1;
                case "outside":
                    return x.house(house, 0) == -1;
                case "safe":
                    return (safe >> house & 1) == 1;
                default:
                    return compares(first);
            }
        }

        private boolean compares(String first) {
            int value = first.equals("number") ? house : x.house(house, first.equals("worth") ? 1 : 2);
            String sign = in.oneOf("< = >");
            int number = in.number(0, 999);
            return sign.equals("<") ? value < number : sign.equals("=") ? value == number : value > number;
        }
    }
}
