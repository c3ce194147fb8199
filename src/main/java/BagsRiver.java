import java.util.NoSuchElementException;

/** Nine hundred bags and a river: see DOC.md; the terms in capitals are the document's. */
public final class BagsRiver {
    public static final int NONE = -1;

    private static final int MOST_WALLS = 5;
    private static final int MOST_HOUSES = 10;
    private static final int MOST_DRAINS = 6;
    private static final int MOST_CRESTS = 6;
    private static final int MOST_GAUGES = 8;
    private static final int MOST_INCH = 60;
    private static final int MOST_PEOPLE = 60;
    private static final int MOST_BAGS = 999;
    private static final int MOST_HOURS = 24;
    private static final int ALL_OVER = 48;
    private static final int FIRST_DRAIN = 10;
    private static final int DOOR_BAGS = 9;

    private static final int STREET_BYTES = 900;
    private static final int BOOK_BYTES = 400;
    private static final int SENTENCE_BYTES = 200;

    private static final int CANT_COME = 1;
    private static final int BAD_NUMBER = 2;
    private static final int BAD_NAME = 3;
    private static final int TOO_MANY = 4;

    private static final int OTHER_LIVES = -1000;
    private static final int DRAWN_HOURS = 24;
    private static final int IMAGES = 2;

    private final Tape tape;
    private final StreetReader streetReader;
    private Street street;
    private Street nextStreet;
    private final State state;
    private final State trial;
    private final Past past;
    private Sentence sentence;
    private Sentence nextSentence;
    private final Book book;
    private final Planner planner;
    private final Image[] images;
    private int faultKind;
    private int crewFill;
    private int crewCarry;
    private int wallingBits;
    private int carriedBits;
    private int mostBags;

    public BagsRiver() {
        tape = new Tape();
        streetReader = new StreetReader(tape);
        street = new Street();
        nextStreet = new Street();
        state = new State();
        state.begin(street);
        trial = new State();
        past = new Past();
        sentence = new Sentence();
        nextSentence = new Sentence();
        book = new Book();
        planner = new Planner();
        images = new Image[IMAGES];
        for (int k = 0; k < IMAGES; k++) {
            images[k] = new Image();
        }
        crewFill = NONE;
        crewCarry = NONE;
        wallingBits = NONE;
        carriedBits = NONE;
        mostBags = NONE;
    }

    public int feed(int a, int b, int c, int d, int e) {
        return tape.append(a, b, c, d, e);
    }

    public boolean end(int n) {
        return tape.cutTo(n);
    }

    public int street() {
        tape.begin(STREET_BYTES);
        int lines = streetReader.read(nextStreet);
        tape.length = 0;
        faultKind = tape.faultKind;
        if (faultKind != 0) {
            return -1 - tape.faultPlace;
        }
        Street read = nextStreet;
        nextStreet = street;
        street = read;
        state.begin(street);
        sentence.clear();
        past.count = 0;
        return lines;
    }

    public int fault() {
        return faultKind;
    }

    public int wall(int w, int what) {
        if (!street.hasWall(w)) {
            return NONE;
        }
        switch (what) {
            case 0: return street.wide[w];
            case 1: return state.wallBags[w];
            case 2: return state.heightOf(street, w);
            case 3: return bit(state.quitWalls, w);
            case 4: return street.housesBehind(w);
            case 5: return street.drainsOf(w);
            default: return NONE;
        }
    }

    public int house(int h, int what) throws NoSuchElementException {
        if (!street.hasHouse(h) || what < 0 || what > 5) {
            throw new NoSuchElementException("no such HOUSE, or nothing such is told of it");
        }
        switch (what) {
            case 0: return street.wallOf[h];
            case 1: return street.worth[h];
            case 2: return street.floor[h];
            case 3: return state.isFlooded(h) ? 1 : 0;
            case 4: return state.floodHour[h];
            default: return bit(state.upHouses, h);
        }
    }

    public int drain(int d, int what) {
        if (!street.hasDrain(d)) {
            return NONE;
        }
        switch (what) {
            case 0: return street.drainWall[d];
            case 1: return street.drainInch[d];
            case 2: return street.drainTakes[d];
            case 3: return state.drainBags[d];
            case 4: return state.isStopped(street, d) ? 1 : 0;
            default: return NONE;
        }
    }

    public int now(int what) {
        switch (what) {
            case 0: return state.hour;
            case 1: return state.river(street);
            case 2: return state.sand;
            case 3: return state.ready;
            case 4: return state.tired;
            case 5: return state.bagsEach(street);
            case 6: return state.floodedHouses(street);
            case 7: return state.rain;
            case 8: return state.savedWorth(street);
            case 9: return state.carriedBags;
            default: return NONE;
        }
    }

    public int posted(int what) {
        switch (what) {
            case 0: return state.fillers;
            case 1: return state.carriers;
            case 2: return state.target;
            default: return NONE;
        }
    }

    public int post(int f, int c, int w) {
        boolean people = isWithin(f, 0, MOST_PEOPLE) && isWithin(c, 0, MOST_PEOPLE) && f + c <= street.people;
        if (!people || !street.hasTarget(w)) {
            return NONE;
        }
        if (state.isPosted(f, c, w)) {
            return 1;
        }
        past.keep(state);
        state.takePosts(f, c, w);
        return 0;
    }

    public int quit(int w) {
        if (!street.hasWall(w)) {
            return NONE;
        }
        int why = state.whyNotQuit(w);
        if (why == 0) {
            past.keep(state);
            state.giveUpWall(w);
        }
        return why;
    }

    public int up(int h) {
        if (!street.hasHouse(h)) {
            return NONE;
        }
        int why = state.whyNotUp(h);
        if (why == 0) {
            past.keep(state);
            state.carryUp(h);
        }
        return why;
    }

    public int hours(int n) {
        if (!isWithin(n, 1, MOST_HOURS)) {
            return NONE;
        }
        int goes = Math.min(n, ALL_OVER - state.hour);
        if (goes > 0) {
            past.keep(state);
            state.goHours(street, goes);
        }
        return goes;
    }

    public int undo() {
        return past.giveBack(state);
    }

    public int takes(int w, int h) {
        if (!street.hasWall(w) || !isWithin(h, 0, MOST_INCH)) {
            return NONE;
        }
        return street.bagsFor(w, h);
    }

    public int lacks(int w) {
        if (!street.hasWall(w) || bit(state.quitWalls, w) == 1) {
            return NONE;
        }
        int needed = street.bagsFor(w, state.greatestRiver(street));
        return Math.max(needed - state.wallBags[w], 0);
    }

    public int plan(int b, int what) throws NoSuchElementException {
        if (!isWithin(b, 0, MOST_BAGS) || !isWithin(what, 0, 1) || street.crests.count == 0) {
            throw new NoSuchElementException("no such bags, no such number of a fraction, or no crests");
        }
        planner.choose(street, b);
        return fraction(planner.bestGain, street.crests.sumFrom(0), what);
    }

    public int planAt(int w) {
        return planner.plannedHeight(w);
    }

    public int sure(int h, int l, int what) throws NoSuchElementException {
        boolean told = isWithin(h, 0, MOST_INCH) && isWithin(l, 0, MOST_INCH) && isWithin(what, 0, 1);
        if (!told || street.crests.sumFrom(l) == 0) {
            throw new NoSuchElementException("no such inches, no such number of a fraction, or no crest is so high");
        }
        int all = street.crests.sumFrom(l);
        int above = street.crests.sumFrom(Math.max(h + 1, l));
        return fraction(all - above, all, what);
    }

    public int crew(int n) {
        if (!isWithin(n, 1, 6) || n > ALL_OVER - state.hour) {
            return NONE;
        }
        int most = NONE;
        for (int f = 0; f <= street.people; f++) {
            for (int c = 0; f + c <= street.people; c++) {
                int bags = bagsCarriedBy(f, c, n);
                if (bags > most) {
                    most = bags;
                    crewFill = f;
                    crewCarry = c;
                }
            }
        }
        return most;
    }

    private int bagsCarriedBy(int f, int c, int n) {
        trial.copyFrom(state);
        trial.takePosts(f, c, state.target);
        for (int i = 0; i < n; i++) {
            trial.work(street);
        }
        return trial.carriedBags - state.carriedBags;
    }

    public int crewed(int what) {
        switch (what) {
            case 0: return crewFill;
            case 1: return crewCarry;
            default: return NONE;
        }
    }

    public int rests(int w, int b) {
        if (!street.hasWall(w) || !isWithin(b, 0, MOST_BAGS)) {
            return NONE;
        }
        int players = street.housesBehind(w);
        int needed = street.bagsFor(w, street.crests.greatestKey());
        int rests = 0;
        int mostSaved = NONE;
        for (int goers = 0; goers <= players; goers++) {
            if ((goers & ~players) == 0 && isRest(goers, players, b, needed)) {
                rests++;
                int saved = savedInGame(goers, players, b, needed);
                if (saved > mostSaved) {
                    mostSaved = saved;
                    wallingBits = goers;
                }
            }
        }
        return rests;
    }

    /** All who do alike gain alike, so it is enough to ask whether one who goes, or one who stays, would. */
    private static boolean isRest(int goers, int players, int b, int needed) {
        int many = Integer.bitCount(goers);
        boolean holds = many * b >= needed;
        boolean doorSaves = b >= DOOR_BAGS;
        boolean goerGains = !holds && doorSaves;
        boolean stayerGains = !holds && !doorSaves && (many + 1) * b >= needed;
        if (goers != 0 && goerGains) {
            return false;
        }
        return goers == players || !stayerGains;
    }

    private int savedInGame(int goers, int players, int b, int needed) {
        if (Integer.bitCount(goers) * b >= needed) {
            return street.worthOf(players);
        }
        return b >= DOOR_BAGS ? street.worthOf(players & ~goers) : 0;
    }

    public int walling() {
        return wallingBits;
    }

    public int due(int h, int w) {
        if (!street.hasHouse(h) || street.wallOf[h] != NONE || !isWithin(w, 0, MOST_BAGS)) {
            return NONE;
        }
        int all = street.worthOf(street.housesBehind(NONE));
        if (all <= 0) {
            return NONE;
        }
        int left = w;
        int ahead = 0;
        int rest = w * street.worth[h] % all;
        for (int i = 0; i < street.houses; i++) {
            if (street.wallOf[i] == NONE) {
                int share = w * street.worth[i];
                left -= share / all;
                boolean before = share % all > rest || share % all == rest && i < h;
                ahead += before ? 1 : 0;
            }
        }
        return w * street.worth[h] / all + (ahead < left ? 1 : 0);
    }

    public int leaks(int w, int h) {
        if (!street.hasWall(w) || !isWithin(h, 0, MOST_INCH)) {
            return NONE;
        }
        return state.leakingDrains(street, w, h);
    }

    public int when(int h) {
        if (!street.hasHouse(h) || state.isFlooded(h)) {
            return NONE;
        }
        tryToTheEnd();
        return trial.floodHour[h];
    }

    public int last() {
        tryToTheEnd();
        return trial.savedWorth(street);
    }

    private void tryToTheEnd() {
        trial.copyFrom(state);
        trial.goHours(street, ALL_OVER - trial.hour);
    }

    public int carpets(int n) {
        if (!isWithin(n, 0, MOST_HOUSES)) {
            return NONE;
        }
        int taken = 0;
        int worth = 0;
        for (int i = 0; i < n; i++) {
            int h = dearestCarpets(taken);
            if (h != NONE) {
                taken |= 1 << h;
                worth += street.worth[h] / 2;
            }
        }
        carriedBits = taken;
        return worth;
    }

    /** The first HOUSE whose carpets are worth most among those that are not taken: NONE if there is none. */
    private int dearestCarpets(int taken) {
        int crest = street.crests.greatestKey();
        int best = NONE;
        for (int h = 0; h < street.houses; h++) {
            boolean open = !state.isFlooded(h) && bit(state.upHouses, h) == 0 && bit(taken, h) == 0;
            if (open && crest > street.floor[h]) {
                if (best == NONE || street.worth[h] / 2 > street.worth[best] / 2) {
                    best = h;
                }
            }
        }
        return best;
    }

    public int carried() {
        return carriedBits;
    }

    public int built() {
        int bytes = tape.length;
        tape.length = 0;
        if (bytes != street.walls || bytes < 1) {
            return NONE;
        }
        int least = 0;
        int most = 0;
        for (int w = 0; w < street.walls; w++) {
            int high = tape.bytes[w];
            if (high > MOST_INCH) {
                return NONE;
            }
            least += street.bagsFor(w, high);
            most += street.bagsFor(w, high + 1) - 1;
        }
        mostBags = most;
        return least;
    }

    public int most() {
        return mostBags;
    }

    public int drawn(int n, int seed) {
        if (!isWithin(n, 1, MOST_HOURS)) {
            return NONE;
        }
        int goes = Math.min(n, ALL_OVER - state.hour);
        if (goes > 0) {
            past.keep(state);
            state.drawHours(street, goes, seed);
        }
        return goes;
    }

    public int odds(int h, int n, int seed) {
        if (!street.hasHouse(h) || !isWithin(n, 1, 30)) {
            return NONE;
        }
        int floods = 0;
        for (int i = 0; i < n; i++) {
            trial.copyFrom(state);
            trial.drawHours(street, DRAWN_HOURS, seed + i);
            floods += trial.isFlooded(h) ? 1 : 0;
        }
        return floods;
    }

    public int book(int lives) {
        if (!isWithin(lives, 0, 1)) {
            return OTHER_LIVES;
        }
        tape.begin(BOOK_BYTES);
        book.read(tape, street);
        tape.length = 0;
        faultKind = tape.faultKind;
        if (faultKind != 0) {
            return -2 - tape.faultPlace;
        }
        trial.copyFrom(state);
        book.judge(street, trial);
        if (lives == 1 && book.livedLines > 0) {
            past.keep(state);
            state.copyFrom(trial);
        }
        return book.wrong == 0 ? NONE : book.livedLines;
    }

    public int told(int what) {
        return book.tell(what);
    }

    public int sentence() {
        tape.begin(SENTENCE_BYTES);
        nextSentence.read(tape, street);
        tape.length = 0;
        faultKind = tape.faultKind;
        if (faultKind != 0) {
            return -1 - tape.faultPlace;
        }
        Sentence read = nextSentence;
        nextSentence = sentence;
        sentence = read;
        return sentence.ones;
    }

    public int said(int k) {
        if (sentence.ones == 0) {
            return NONE;
        }
        int houses = sentence.housesSaid(street, state);
        if (k == NONE) {
            return Integer.bitCount(houses);
        }
        int ahead = 0;
        for (int h = 0; h < street.houses; h++) {
            if (bit(houses, h) == 1) {
                if (ahead == k) {
                    return h;
                }
                ahead++;
            }
        }
        return NONE;
    }

    public boolean image(int k) {
        if (!isWithin(k, 0, IMAGES - 1)) {
            return false;
        }
        images[k].street.copyFrom(street);
        images[k].state.copyFrom(state);
        images[k].sentence.copyFrom(sentence);
        images[k].kept = true;
        return true;
    }

    public boolean restore(int k) {
        if (!isWithin(k, 0, IMAGES - 1) || !images[k].kept) {
            return false;
        }
        street.copyFrom(images[k].street);
        state.copyFrom(images[k].state);
        sentence.copyFrom(images[k].sentence);
        past.count = 0;
        return true;
    }

    public int count(int what) {
        switch (what) {
            case 0: return street.walls;
            case 1: return street.houses;
            case 2: return street.drains;
            case 3: return street.crests.count;
            case 4: return street.people;
            case 5: return street.rate;
            case 6: return tape.length;
            default: return NONE;
        }
    }

    private static boolean isWithin(int n, int least, int most) {
        return n >= least && n <= most;
    }

    private static int bit(int bits, int place) {
        return bits >>> place & 1;
    }

    /** Above (what 0) or below (1) of a fraction in least terms; below is told above 0. */
    private static int fraction(int above, int below, int what) {
        int common = greatestCommon(above, below);
        if (common == 0) {
            return NONE;
        }
        return (what == 0 ? above : below) / common;
    }

    /** Euclid's remainders of an int are gone long before the bound. */
    private static int greatestCommon(int a, int b) {
        int x = a;
        int y = b;
        for (int i = 0; i < 100 && y != 0; i++) {
            int rest = x % y;
            x = y;
            y = rest;
        }
        return x;
    }

    /** The WORDS that a text may need, none of which is a NAME. */
    private enum Word {
        WALL("wall"), HOUSE("house"), OUTSIDE("outside"), DRAIN("drain"), CREST("crest"), GAUGE("gauge"),
        PEOPLE("people"), SAND("sand"), RATE("rate"),
        POST("post"), QUIT("quit"), UP("up"), HOUR("hour"),
        OR("or"), AND("and"), NOT("not"), FLOODED("flooded"), UPPED("upped"), SAFE("safe"), BEHIND("behind"),
        WORTH("worth"), FLOOR("floor"), NUMBER("number");

        private static final Word[] ALL = values();

        private final long packed;

        Word(String text) {
            long letters = 0;
            for (int i = 0; i < text.length(); i++) {
                letters = packedWith(letters, text.charAt(i));
            }
            packed = letters;
        }

        /** Seven letters fit in one long, and no two WORDS are packed alike. */
        static long packedWith(long letters, int letter) {
            return letters * 27 + (letter - 'a' + 1);
        }

        /** The WORD of these letters; null: it may be a NAME. */
        static Word of(long letters) {
            for (int i = 0; i < ALL.length; i++) {
                if (ALL[i].packed == letters) {
                    return ALL[i];
                }
            }
            return null;
        }
    }

    /** The bytes that were fed and not yet read; their TOKENS, one at a time; the first FAULT that a reader finds. */
    private static final class Tape {
        static final int AT_END = 0;
        static final int NO_TOKEN = 1;
        static final int A_WORD = 2;
        static final int A_NUMBER = 3;
        static final int A_SIGN = 4;

        final int[] bytes = new int[940];
        int length;
        private int limit;
        private int at;
        private int start;
        int kind;
        int value;
        long letters;
        Word word;
        int faultKind;
        int faultPlace;

        int append(int a, int b, int c, int d, int e) {
            if (length + 20 > bytes.length) {
                return NONE;
            }
            put(a);
            put(b);
            put(c);
            put(d);
            put(e);
            return length;
        }

        private void put(int four) {
            for (int shift = 24; shift >= 0; shift -= 8) {
                if (length < bytes.length) {
                    bytes[length] = four >>> shift & 255;
                    length++;
                }
            }
        }

        boolean cutTo(int n) {
            if (n < 0 || n > length) {
                return false;
            }
            length = n;
            return true;
        }

        void begin(int mostBytes) {
            limit = mostBytes;
            at = 0;
            faultKind = 0;
            faultPlace = 0;
            next();
        }

        void next() {
            word = null;
            letters = 0;
            value = 0;
            while (at < length && isBlank(bytes[at])) {
                at++;
            }
            start = at;
            if (length > limit && at >= limit) {
                kind = NO_TOKEN;
                start = limit;
            } else if (at >= length) {
                kind = AT_END;
                start = length;
            } else if (isLetter(bytes[at]) || isDigit(bytes[at])) {
                readRun();
            } else {
                value = bytes[at];
                kind = isSign(value) ? A_SIGN : NO_TOKEN;
                at++;
            }
        }

        private void readRun() {
            int digits = 0;
            while (at < length && (isLetter(bytes[at]) || isDigit(bytes[at]))) {
                int c = bytes[at];
                if (isDigit(c)) {
                    digits++;
                    value = value * 10 + (c - '0');
                } else {
                    letters = Word.packedWith(letters, c);
                }
                at++;
            }
            int run = at - start;
            if (digits == 0 && run <= 7) {
                kind = A_WORD;
                word = Word.of(letters);
            } else if (digits == run && run <= 3) {
                kind = A_NUMBER;
            } else {
                kind = NO_TOKEN;
            }
        }

        private static boolean isBlank(int c) {
            return c == 32 || c == 10;
        }

        private static boolean isLetter(int c) {
            return c >= 'a' && c <= 'z';
        }

        private static boolean isDigit(int c) {
            return c >= '0' && c <= '9';
        }

        private static boolean isSign(int c) {
            return c == ';' || c == '<' || c == '=' || c == '>' || c == '(' || c == ')';
        }

        /** A FAULT at the TOKEN that is next; false, so that readers can return it. */
        boolean fail(int fault) {
            faultKind = fault;
            faultPlace = start;
            return false;
        }

        boolean atSign(int c) {
            return kind == A_SIGN && value == c;
        }

        boolean takeSign(int c) {
            if (!atSign(c)) {
                return fail(CANT_COME);
            }
            next();
            return true;
        }

        boolean atName() {
            return kind == A_WORD && word == null;
        }

        /** The NUMBER that is next, which stays so; NONE: a FAULT. */
        int seeNumber(int least, int most) {
            if (kind != A_NUMBER) {
                fail(CANT_COME);
                return NONE;
            }
            if (value < least || value > most) {
                fail(BAD_NUMBER);
                return NONE;
            }
            return value;
        }

        int takeNumber(int least, int most) {
            int number = seeNumber(least, most);
            if (number != NONE) {
                next();
            }
            return number;
        }

        /** The number of the thing that is NAMED next, and stays so; NONE: a FAULT. */
        int seeNamed(long[] names, int count) {
            if (!atName()) {
                fail(CANT_COME);
                return NONE;
            }
            int found = Street.indexOf(names, count, letters);
            if (found == NONE) {
                fail(BAD_NAME);
            }
            return found;
        }
    }

    /** Numbers that are told once each, with a number for each of them: crests and the gauge. */
    private static final class Pairs {
        final int[] keys;
        final int[] values;
        int count;

        Pairs(int most) {
            keys = new int[Math.max(most, 0)];
            values = new int[Math.max(most, 0)];
        }

        boolean isFull() {
            return count >= keys.length;
        }

        boolean has(int key) {
            for (int i = 0; i < count; i++) {
                if (keys[i] == key) {
                    return true;
                }
            }
            return false;
        }

        void add(int key, int value) {
            if (!isFull()) {
                keys[count] = key;
                values[count] = value;
                count++;
            }
        }

        /** All values of the keys from this one on. */
        int sumFrom(int key) {
            int sum = 0;
            for (int i = 0; i < count; i++) {
                sum += keys[i] >= key ? values[i] : 0;
            }
            return sum;
        }

        int greatestKey() {
            int greatest = 0;
            for (int i = 0; i < count; i++) {
                greatest = Math.max(greatest, keys[i]);
            }
            return greatest;
        }

        /** The value of the greatest key up to this one; 0 without. */
        int latestValue(int key) {
            int best = NONE;
            for (int i = 0; i < count; i++) {
                if (keys[i] <= key && (best == NONE || keys[i] > keys[best])) {
                    best = i;
                }
            }
            return best == NONE ? 0 : values[best];
        }

        void copyFrom(Pairs other) {
            copyInts(other.keys, keys);
            copyInts(other.values, values);
            count = other.count;
        }
    }

    private static void copyInts(int[] from, int[] to) {
        System.arraycopy(from, 0, to, 0, Math.min(from.length, to.length));
    }

    private static void copyLongs(long[] from, long[] to) {
        System.arraycopy(from, 0, to, 0, Math.min(from.length, to.length));
    }

    /** What a STREET's text tells, which no HOUR changes. */
    private static final class Street {
        final long[] wallNames = new long[MOST_WALLS];
        final int[] wide = new int[MOST_WALLS];
        int walls;
        final long[] houseNames = new long[MOST_HOUSES];
        final int[] wallOf = new int[MOST_HOUSES];
        final int[] worth = new int[MOST_HOUSES];
        final int[] floor = new int[MOST_HOUSES];
        int houses;
        final long[] drainNames = new long[MOST_DRAINS];
        final int[] drainWall = new int[MOST_DRAINS];
        final int[] drainInch = new int[MOST_DRAINS];
        final int[] drainTakes = new int[MOST_DRAINS];
        int drains;
        final Pairs crests = new Pairs(MOST_CRESTS);
        final Pairs gauges = new Pairs(MOST_GAUGES);
        int people;
        int sand;
        int rate;

        Street() {
            clear();
        }

        void clear() {
            walls = 0;
            houses = 0;
            drains = 0;
            crests.count = 0;
            gauges.count = 0;
            people = 10;
            sand = 900;
            rate = 11;
        }

        void copyFrom(Street other) {
            copyLongs(other.wallNames, wallNames);
            copyInts(other.wide, wide);
            walls = other.walls;
            copyLongs(other.houseNames, houseNames);
            copyInts(other.wallOf, wallOf);
            copyInts(other.worth, worth);
            copyInts(other.floor, floor);
            houses = other.houses;
            copyLongs(other.drainNames, drainNames);
            copyInts(other.drainWall, drainWall);
            copyInts(other.drainInch, drainInch);
            copyInts(other.drainTakes, drainTakes);
            drains = other.drains;
            crests.copyFrom(other.crests);
            gauges.copyFrom(other.gauges);
            people = other.people;
            sand = other.sand;
            rate = other.rate;
        }

        static int indexOf(long[] names, int count, long name) {
            for (int i = 0; i < count && i < names.length; i++) {
                if (names[i] == name) {
                    return i;
                }
            }
            return NONE;
        }

        boolean knows(long name) {
            return indexOf(wallNames, walls, name) != NONE || indexOf(houseNames, houses, name) != NONE
                || indexOf(drainNames, drains, name) != NONE;
        }

        void addWall(long name, int wideness) {
            if (walls < MOST_WALLS) {
                wallNames[walls] = name;
                wide[walls] = wideness;
                walls++;
            }
        }

        void addHouse(long name, int wall, int itsWorth, int itsFloor) {
            if (houses < MOST_HOUSES) {
                houseNames[houses] = name;
                wallOf[houses] = wall;
                worth[houses] = itsWorth;
                floor[houses] = itsFloor;
                houses++;
            }
        }

        void addDrain(long name, int wall, int inch, int bags) {
            if (drains < MOST_DRAINS) {
                drainNames[drains] = name;
                drainWall[drains] = wall;
                drainInch[drains] = inch;
                drainTakes[drains] = bags;
                drains++;
            }
        }

        boolean hasWall(int w) {
            return w >= 0 && w < walls && w < MOST_WALLS;
        }

        boolean hasHouse(int h) {
            return h >= 0 && h < houses && h < MOST_HOUSES;
        }

        boolean hasDrain(int d) {
            return d >= 0 && d < drains && d < MOST_DRAINS;
        }

        /** As posted() tells where to: a WALL's number, or 10 and a DRAIN's. */
        boolean hasTarget(int w) {
            return hasWall(w) || w >= FIRST_DRAIN && hasDrain(w - FIRST_DRAIN);
        }

        int bagsFor(int w, int inches) {
            return hasWall(w) ? wide[w] * (inches * (inches + 1) / 2) : 0;
        }

        /** As bits; of those outside, if the WALL is NONE. */
        int housesBehind(int w) {
            int bits = 0;
            for (int h = 0; h < houses; h++) {
                bits |= wallOf[h] == w ? 1 << h : 0;
            }
            return bits;
        }

        int drainsOf(int w) {
            int bits = 0;
            for (int d = 0; d < drains; d++) {
                bits |= drainWall[d] == w ? 1 << d : 0;
            }
            return bits;
        }

        int worthOf(int bits) {
            int sum = 0;
            for (int h = 0; h < houses; h++) {
                sum += bit(bits, h) * worth[h];
            }
            return sum;
        }
    }

    /** Reads a STREET's text into a STREET that is not in use. */
    private static final class StreetReader {
        private static final int FAULTY = -2;

        private final Tape tape;
        private Street into;
        private boolean peopleTold;
        private boolean sandTold;
        private boolean rateTold;

        StreetReader(Tape tape) {
            this.tape = tape;
        }

        /** How many LINES; the TOKENS hold the FAULT, if there is one. */
        int read(Street fresh) {
            into = fresh;
            into.clear();
            peopleTold = false;
            sandTold = false;
            rateTold = false;
            int lines = 0;
            boolean fine = true;
            while (fine && tape.kind != Tape.AT_END && lines < STREET_BYTES) {
                fine = readLine() && tape.takeSign(';');
                lines++;
            }
            return lines;
        }

        private boolean readLine() {
            Word first = tape.word;
            if (first == null) {
                return tape.fail(CANT_COME);
            }
            switch (first) {
                case WALL: return readWall();
                case HOUSE: return readHouse();
                case DRAIN: return readDrain();
                case CREST: return readPair(into.crests, MOST_INCH, 1, 99);
                case GAUGE: return readPair(into.gauges, ALL_OVER - 1, 0, MOST_INCH);
                case PEOPLE: return readPeople();
                case SAND: return readSand();
                case RATE: return readRate();
                default: return tape.fail(CANT_COME);
            }
        }

        private boolean readWall() {
            if (into.walls >= MOST_WALLS) {
                return tape.fail(TOO_MANY);
            }
            tape.next();
            long name = tape.letters;
            if (!takeNewName()) {
                return false;
            }
            int wide = tape.takeNumber(1, 20);
            into.addWall(name, wide);
            return wide != NONE;
        }

        private boolean readHouse() {
            if (into.houses >= MOST_HOUSES) {
                return tape.fail(TOO_MANY);
            }
            tape.next();
            long name = tape.letters;
            if (!takeNewName()) {
                return false;
            }
            int wall = seeWallOrOutside();
            if (wall == FAULTY) {
                return false;
            }
            tape.next();
            int worth = tape.takeNumber(1, 99);
            if (worth == NONE) {
                return false;
            }
            int floor = tape.takeNumber(0, MOST_INCH);
            into.addHouse(name, wall, worth, floor);
            return floor != NONE;
        }

        private int seeWallOrOutside() {
            if (tape.word == Word.OUTSIDE) {
                return NONE;
            }
            int wall = tape.seeNamed(into.wallNames, into.walls);
            return wall == NONE ? FAULTY : wall;
        }

        private boolean readDrain() {
            if (into.drains >= MOST_DRAINS) {
                return tape.fail(TOO_MANY);
            }
            tape.next();
            long name = tape.letters;
            if (!takeNewName()) {
                return false;
            }
            int wall = tape.seeNamed(into.wallNames, into.walls);
            if (wall == NONE) {
                return false;
            }
            tape.next();
            int inch = tape.takeNumber(0, MOST_INCH);
            if (inch == NONE) {
                return false;
            }
            int bags = tape.takeNumber(1, 40);
            into.addDrain(name, wall, inch, bags);
            return bags != NONE;
        }

        private boolean takeNewName() {
            if (!tape.atName()) {
                return tape.fail(CANT_COME);
            }
            if (into.knows(tape.letters)) {
                return tape.fail(BAD_NAME);
            }
            tape.next();
            return true;
        }

        private boolean readPair(Pairs pairs, int mostKey, int least, int most) {
            if (pairs.isFull()) {
                return tape.fail(TOO_MANY);
            }
            tape.next();
            int key = tape.seeNumber(0, mostKey);
            if (key == NONE) {
                return false;
            }
            if (pairs.has(key)) {
                return tape.fail(BAD_NAME);
            }
            tape.next();
            int value = tape.takeNumber(least, most);
            pairs.add(key, value);
            return value != NONE;
        }

        private boolean readPeople() {
            if (peopleTold) {
                return tape.fail(BAD_NAME);
            }
            peopleTold = true;
            tape.next();
            into.people = tape.takeNumber(1, MOST_PEOPLE);
            return into.people != NONE;
        }

        private boolean readSand() {
            if (sandTold) {
                return tape.fail(BAD_NAME);
            }
            sandTold = true;
            tape.next();
            into.sand = tape.takeNumber(0, MOST_BAGS);
            return into.sand != NONE;
        }

        private boolean readRate() {
            if (rateTold) {
                return tape.fail(BAD_NAME);
            }
            rateTold = true;
            tape.next();
            into.rate = tape.takeNumber(1, 20);
            return into.rate != NONE;
        }
    }

    /** All that HOURS and acts change. */
    private static final class State {
        int hour;
        int sand;
        int ready;
        int tired;
        int rain;
        int carriedBags;
        int fillers;
        int carriers;
        int target;
        int quitWalls;
        int upHouses;
        final int[] wallBags = new int[MOST_WALLS];
        final int[] drainBags = new int[MOST_DRAINS];
        final int[] floodHour = new int[MOST_HOUSES];

        void begin(Street street) {
            hour = 0;
            sand = street.sand;
            ready = 0;
            tired = 0;
            rain = 0;
            carriedBags = 0;
            fillers = 0;
            carriers = 0;
            target = 0;
            quitWalls = 0;
            upHouses = 0;
            for (int w = 0; w < MOST_WALLS; w++) {
                wallBags[w] = 0;
            }
            for (int d = 0; d < MOST_DRAINS; d++) {
                drainBags[d] = 0;
            }
            for (int h = 0; h < MOST_HOUSES; h++) {
                floodHour[h] = NONE;
            }
        }

        void copyFrom(State other) {
            hour = other.hour;
            sand = other.sand;
            ready = other.ready;
            tired = other.tired;
            rain = other.rain;
            carriedBags = other.carriedBags;
            fillers = other.fillers;
            carriers = other.carriers;
            target = other.target;
            quitWalls = other.quitWalls;
            upHouses = other.upHouses;
            copyInts(other.wallBags, wallBags);
            copyInts(other.drainBags, drainBags);
            copyInts(other.floodHour, floodHour);
        }

        int river(Street street) {
            return street.gauges.latestValue(hour) + rain;
        }

        /** Of this HOUR and all that come; behind the last one the river stays as it is. */
        int greatestRiver(Street street) {
            int greatest = river(street);
            for (int t = hour; t < ALL_OVER; t++) {
                greatest = Math.max(greatest, street.gauges.latestValue(t) + rain);
            }
            return greatest;
        }

        int bagsEach(Street street) {
            return Math.max(street.rate - tired / 2, 1);
        }

        boolean isFlooded(int h) {
            return h >= 0 && h < MOST_HOUSES && floodHour[h] != NONE;
        }

        int floodedHouses(Street street) {
            int bits = 0;
            for (int h = 0; h < street.houses; h++) {
                bits |= isFlooded(h) ? 1 << h : 0;
            }
            return bits;
        }

        boolean isStopped(Street street, int d) {
            return street.hasDrain(d) && drainBags[d] >= street.drainTakes[d];
        }

        int leakingDrains(Street street, int w, int inches) {
            int bits = 0;
            for (int d = 0; d < street.drains && d < MOST_DRAINS; d++) {
                boolean comesUp = street.drainWall[d] == w && street.drainInch[d] <= inches;
                bits |= comesUp && drainBags[d] < street.drainTakes[d] ? 1 << d : 0;
            }
            return bits;
        }

        /** The sand of a STREET ends far below a thousand inches, and what was QUIT has no bags. */
        int heightOf(Street street, int w) {
            if (!street.hasWall(w) || bit(quitWalls, w) == 1) {
                return 0;
            }
            int inches = 0;
            while (inches < 1000 && street.bagsFor(w, inches + 1) <= wallBags[w]) {
                inches++;
            }
            return inches;
        }

        boolean wouldFlood(Street street, int h, int river) {
            if (!street.hasHouse(h) || river <= street.floor[h]) {
                return false;
            }
            int w = street.wallOf[h];
            if (!street.hasWall(w) || bit(quitWalls, w) == 1) {
                return true;
            }
            return street.bagsFor(w, river) > wallBags[w] || leakingDrains(street, w, river) != 0;
        }

        int savedWorth(Street street) {
            int sum = 0;
            for (int h = 0; h < street.houses; h++) {
                if (!isFlooded(h)) {
                    sum += street.worth[h];
                } else if (bit(upHouses, h) == 1) {
                    sum += street.worth[h] / 2;
                }
            }
            return sum;
        }

        boolean isPosted(int f, int c, int w) {
            return fillers == f && carriers == c && target == w;
        }

        void takePosts(int f, int c, int w) {
            fillers = f;
            carriers = c;
            target = w;
        }

        int whyNotQuit(int w) {
            return bit(quitWalls, w);
        }

        void giveUpWall(int w) {
            if (w >= 0 && w < MOST_WALLS) {
                ready += wallBags[w] / 2;
                wallBags[w] = 0;
                quitWalls |= 1 << w;
            }
        }

        int whyNotUp(int h) {
            if (isFlooded(h)) {
                return 1;
            }
            return bit(upHouses, h) == 1 ? 2 : 0;
        }

        void carryUp(int h) {
            upHouses |= 1 << h;
            tired++;
        }

        /** What people do in this HOUR, the river left out. */
        void work(Street street) {
            int each = bagsEach(street);
            int filled = Math.min(fillers / 2 * each, sand);
            sand -= filled;
            ready += filled;
            layDown(street, Math.min(carriers * each, ready));
            tired = fillers + carriers > 0 ? tired + 1 : Math.max(tired - 2, 0);
        }

        private void layDown(Street street, int bags) {
            if (street.hasWall(target)) {
                if (bit(quitWalls, target) == 1) {
                    return;
                }
                wallBags[target] += bags;
            } else if (street.hasDrain(target - FIRST_DRAIN)) {
                drainBags[target - FIRST_DRAIN] += bags;
            } else {
                return;
            }
            ready -= bags;
            carriedBags += bags;
        }

        void goHour(Street street) {
            work(street);
            int river = river(street);
            for (int h = 0; h < street.houses; h++) {
                if (!isFlooded(h) && wouldFlood(street, h, river)) {
                    floodHour[h] = hour;
                }
            }
            hour++;
        }

        void goHours(Street street, int n) {
            for (int i = 0; i < n && hour < ALL_OVER; i++) {
                goHour(street);
            }
        }

        void drawHours(Street street, int n, int seed) {
            int x = seed;
            for (int i = 0; i < n && hour < ALL_OVER; i++) {
                x = x * 1103515245 + 12345;
                if ((x >>> 8) % 6 == 0) {
                    rain++;
                }
                goHour(street);
            }
        }
    }

    /** What was so ahead of the latest acts, the oldest ones forgotten. */
    private static final class Past {
        private static final int MOST = 8;

        private final State[] kept = new State[MOST];
        private int next;
        int count;

        Past() {
            for (int i = 0; i < MOST; i++) {
                kept[i] = new State();
            }
        }

        void keep(State state) {
            int place = Math.floorMod(next, MOST);
            kept[place].copyFrom(state);
            next = place + 1;
            count = Math.min(count + 1, MOST);
        }

        /** How many more are kept; NONE: nothing was. */
        int giveBack(State state) {
            if (count <= 0) {
                return NONE;
            }
            int place = Math.floorMod(next - 1, MOST);
            state.copyFrom(kept[place]);
            next = place;
            count--;
            return count;
        }
    }

    /** The LINES of the latest BOOK, and what was told of the latest one without a FAULT. */
    private static final class Book {
        private static final int MOST_LINES = 40;

        private final Word[] verbs = new Word[MOST_LINES];
        private final int[] first = new int[MOST_LINES];
        private final int[] second = new int[MOST_LINES];
        private final int[] place = new int[MOST_LINES];
        private int lines;
        private boolean known;
        int wrong;
        int livedLines;
        private int hourThen;
        private int savedThen;

        void read(Tape tape, Street street) {
            lines = 0;
            boolean fine = true;
            while (fine && tape.kind != Tape.AT_END && lines <= MOST_LINES) {
                fine = readLine(tape, street) && tape.takeSign(';');
            }
        }

        private boolean readLine(Tape tape, Street street) {
            Word verb = tape.word;
            if (verb != Word.POST && verb != Word.QUIT && verb != Word.UP && verb != Word.HOUR) {
                return tape.fail(CANT_COME);
            }
            if (lines >= MOST_LINES) {
                return tape.fail(TOO_MANY);
            }
            tape.next();
            verbs[lines] = verb;
            boolean fine = verb == Word.POST ? readPost(tape, street) : readPlace(tape, street, verb);
            lines++;
            return fine;
        }

        private boolean readPost(Tape tape, Street street) {
            first[lines] = tape.takeNumber(0, MOST_PEOPLE);
            if (first[lines] == NONE) {
                return false;
            }
            second[lines] = tape.takeNumber(0, MOST_PEOPLE);
            if (second[lines] == NONE) {
                return false;
            }
            place[lines] = seeTarget(tape, street);
            return movesOn(tape, place[lines]);
        }

        /** As posted() tells where to. */
        private static int seeTarget(Tape tape, Street street) {
            int drain = tape.atName() ? Street.indexOf(street.drainNames, street.drains, tape.letters) : NONE;
            return drain != NONE ? FIRST_DRAIN + drain : tape.seeNamed(street.wallNames, street.walls);
        }

        private boolean readPlace(Tape tape, Street street, Word verb) {
            if (verb == Word.HOUR) {
                place[lines] = tape.seeNumber(1, MOST_HOURS);
            } else if (verb == Word.QUIT) {
                place[lines] = tape.seeNamed(street.wallNames, street.walls);
            } else {
                place[lines] = tape.seeNamed(street.houseNames, street.houses);
            }
            return movesOn(tape, place[lines]);
        }

        private static boolean movesOn(Tape tape, int seen) {
            if (seen != NONE) {
                tape.next();
            }
            return seen != NONE;
        }

        /** Lives the LINES in a state that is made for it, up to one that is WRONG. */
        void judge(Street street, State state) {
            wrong = 0;
            livedLines = 0;
            for (int i = 0; i < lines && wrong == 0; i++) {
                wrong = whyWrong(street, state, i);
                if (wrong == 0) {
                    live(street, state, i);
                    livedLines++;
                }
            }
            hourThen = state.hour;
            savedThen = state.savedWorth(street);
            known = true;
        }

        private int whyWrong(Street street, State state, int i) {
            if (verbs[i] == Word.POST) {
                if (first[i] + second[i] > street.people) {
                    return 9;
                }
                return state.isPosted(first[i], second[i], place[i]) ? 1 : 0;
            }
            if (verbs[i] == Word.HOUR) {
                return place[i] > ALL_OVER - state.hour ? 31 : 0;
            }
            boolean quits = verbs[i] == Word.QUIT;
            int why = quits ? state.whyNotQuit(place[i]) : state.whyNotUp(place[i]);
            return why == 0 ? 0 : why + (quits ? 10 : 20);
        }

        private void live(Street street, State state, int i) {
            if (verbs[i] == Word.POST) {
                state.takePosts(first[i], second[i], place[i]);
            } else if (verbs[i] == Word.HOUR) {
                state.goHours(street, place[i]);
            } else if (verbs[i] == Word.QUIT) {
                state.giveUpWall(place[i]);
            } else {
                state.carryUp(place[i]);
            }
        }

        int tell(int what) {
            if (!known) {
                return NONE;
            }
            switch (what) {
                case 0: return wrong;
                case 1: return livedLines;
                case 2: return hourThen;
                case 3: return savedThen;
                default: return NONE;
            }
        }
    }

    /** A SENTENCE as steps, each behind its parts; without ONES it is none. */
    private static final class Sentence {
        private static final int MOST_ONES = 20;
        private static final int MOST_WITHIN = 8;

        private final Word[] verbs = new Word[2 * MOST_ONES];
        private final int[] signs = new int[2 * MOST_ONES];
        private final int[] numbers = new int[2 * MOST_ONES];
        private final int[] stack = new int[MOST_ONES];
        private int steps;
        int ones;

        void clear() {
            steps = 0;
            ones = 0;
        }

        void copyFrom(Sentence other) {
            for (int i = 0; i < verbs.length; i++) {
                verbs[i] = other.verbs[i];
            }
            copyInts(other.signs, signs);
            copyInts(other.numbers, numbers);
            steps = other.steps;
            ones = other.ones;
        }

        void read(Tape tape, Street street) {
            clear();
            boolean fine = readCond(tape, street, 1);
            if (fine && tape.kind != Tape.AT_END) {
                tape.fail(CANT_COME);
            }
        }

        /** The depth is that of the ONES that come; a ONE too deep is a FAULT, so this ends. */
        private boolean readCond(Tape tape, Street street, int depth) {
            boolean fine = readAll(tape, street, depth);
            for (int i = 0; fine && tape.word == Word.OR && i <= MOST_ONES; i++) {
                tape.next();
                fine = readAll(tape, street, depth) && addStep(Word.OR, 0, 0);
            }
            return fine;
        }

        private boolean readAll(Tape tape, Street street, int depth) {
            boolean fine = readOne(tape, street, depth);
            for (int i = 0; fine && tape.word == Word.AND && i <= MOST_ONES; i++) {
                tape.next();
                fine = readOne(tape, street, depth) && addStep(Word.AND, 0, 0);
            }
            return fine;
        }

        private boolean readOne(Tape tape, Street street, int depth) {
            Word verb = tape.word;
            boolean bracket = tape.atSign('(');
            if (!bracket && !beginsOne(verb)) {
                return tape.fail(CANT_COME);
            }
            if (ones >= MOST_ONES || depth > MOST_WITHIN) {
                return tape.fail(TOO_MANY);
            }
            ones++;
            tape.next();
            if (bracket) {
                return readCond(tape, street, depth + 1) && tape.takeSign(')');
            }
            if (verb == Word.NOT) {
                return readOne(tape, street, depth + 1) && addStep(verb, 0, 0);
            }
            if (verb == Word.BEHIND) {
                return readBehind(tape, street);
            }
            if (verb == Word.WORTH || verb == Word.FLOOR || verb == Word.NUMBER) {
                return readComparison(tape, verb);
            }
            return addStep(verb, 0, 0);
        }

        private boolean readBehind(Tape tape, Street street) {
            int wall = tape.seeNamed(street.wallNames, street.walls);
            if (wall == NONE) {
                return false;
            }
            tape.next();
            return addStep(Word.BEHIND, 0, wall);
        }

        private static boolean beginsOne(Word verb) {
            return verb == Word.NOT || verb == Word.FLOODED || verb == Word.UPPED || verb == Word.OUTSIDE
                || verb == Word.SAFE || verb == Word.BEHIND || verb == Word.WORTH || verb == Word.FLOOR
                || verb == Word.NUMBER;
        }

        private boolean readComparison(Tape tape, Word verb) {
            if (!tape.atSign('<') && !tape.atSign('=') && !tape.atSign('>')) {
                return tape.fail(CANT_COME);
            }
            int sign = tape.value;
            tape.next();
            int number = tape.takeNumber(0, 999);
            return number != NONE && addStep(verb, sign, number);
        }

        private boolean addStep(Word verb, int sign, int number) {
            if (steps < verbs.length) {
                verbs[steps] = verb;
                signs[steps] = sign;
                numbers[steps] = number;
                steps++;
            }
            return true;
        }

        /** HOUSES as bits of which it may be said. */
        int housesSaid(Street street, State state) {
            int all = (1 << street.houses) - 1;
            int top = 0;
            for (int i = 0; i < steps; i++) {
                Word verb = verbs[i];
                if (verb == Word.NOT && top >= 1) {
                    stack[top - 1] = all & ~stack[top - 1];
                } else if (verb == Word.AND && top >= 2) {
                    top--;
                    stack[top - 1] &= stack[top];
                } else if (verb == Word.OR && top >= 2) {
                    top--;
                    stack[top - 1] |= stack[top];
                } else if (top < MOST_ONES) {
                    stack[top] = housesOfStep(street, state, i);
                    top++;
                }
            }
            return top >= 1 ? stack[0] : 0;
        }

        private int housesOfStep(Street street, State state, int i) {
            int bits = 0;
            for (int h = 0; h < street.houses; h++) {
                bits |= isSo(street, state, i, h) ? 1 << h : 0;
            }
            return bits;
        }

        private boolean isSo(Street street, State state, int i, int h) {
            Word verb = verbs[i];
            if (verb == null) {
                return false;
            }
            switch (verb) {
                case FLOODED: return state.isFlooded(h);
                case UPPED: return bit(state.upHouses, h) == 1;
                case OUTSIDE: return street.wallOf[h] == NONE;
                case SAFE: return !state.isFlooded(h) && !state.wouldFlood(street, h, state.river(street));
                case BEHIND: return street.wallOf[h] == numbers[i];
                case WORTH: return compares(street.worth[h], i);
                case FLOOR: return compares(street.floor[h], i);
                case NUMBER: return compares(h, i);
                default: return false;
            }
        }

        private boolean compares(int number, int i) {
            if (signs[i] == '<') {
                return number < numbers[i];
            }
            return signs[i] == '>' ? number > numbers[i] : number == numbers[i];
        }
    }

    /** What image() keeps. */
    private static final class Image {
        final Street street = new Street();
        final State state = new State();
        final Sentence sentence = new Sentence();
        boolean kept;
    }

    /** PLAN: what a WALL saves does not depend on the others, only its bags do. */
    private static final class Planner {
        private static final int MOST_CHOICES = MOST_CRESTS + 1;

        private final int[] inches = new int[MOST_CHOICES];
        private int choices;
        private final int[][] gains = new int[MOST_WALLS][MOST_CHOICES];
        private final int[][] bags = new int[MOST_WALLS][MOST_CHOICES];
        private final int[] chosen = new int[MOST_WALLS];
        private final int[] planned = new int[MOST_WALLS];
        private int plannedWalls;
        private int walls;
        private int mostBags;
        private int bestBags;
        int bestGain;

        void choose(Street street, int bagsInAll) {
            walls = street.walls;
            mostBags = bagsInAll;
            findChoices(street);
            for (int w = 0; w < walls; w++) {
                for (int c = 0; c < choices; c++) {
                    gains[w][c] = gainOf(street, w, inches[c]);
                    bags[w][c] = street.bagsFor(w, inches[c]);
                }
            }
            bestGain = NONE;
            bestBags = 0;
            plannedWalls = walls;
            tryWall(0, gainOf(street, NONE, 0), 0);
        }

        /** From the least on, so that of like plans the first one met is the one that is due. */
        private void findChoices(Street street) {
            choices = 0;
            for (int inch = 0; inch <= MOST_INCH; inch++) {
                if ((inch == 0 || street.crests.has(inch)) && choices < MOST_CHOICES) {
                    inches[choices] = inch;
                    choices++;
                }
            }
        }

        /** By all crests, each by its ODDS: the WORTH behind a WALL (NONE: outside) of this height. */
        private static int gainOf(Street street, int w, int high) {
            int gain = 0;
            for (int k = 0; k < street.crests.count; k++) {
                int crest = street.crests.keys[k];
                for (int h = 0; h < street.houses; h++) {
                    boolean dry = crest <= street.floor[h] || w != NONE && high >= crest;
                    if (street.wallOf[h] == w && dry) {
                        gain += street.crests.values[k] * street.worth[h];
                    }
                }
            }
            return gain;
        }

        /** Goes no deeper than there are WALLS. */
        private void tryWall(int w, int gain, int used) {
            if (w >= walls || w >= MOST_WALLS) {
                if (gain > bestGain || gain == bestGain && used < bestBags) {
                    bestGain = gain;
                    bestBags = used;
                    copyInts(chosen, planned);
                }
                return;
            }
            for (int c = 0; c < choices; c++) {
                if (used + bags[w][c] <= mostBags) {
                    chosen[w] = inches[c];
                    tryWall(w + 1, gain + gains[w][c], used + bags[w][c]);
                }
            }
        }

        int plannedHeight(int w) {
            return w >= 0 && w < plannedWalls && w < MOST_WALLS ? planned[w] : NONE;
        }
    }
}
