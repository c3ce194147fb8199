import java.util.function.ToIntFunction;

/** Each sentence of the document that names a boundary of the calls: promises 1 to 5, 15, 35 to 41, and what is kept. */
public final class CallBoundariesTest {
    private static final Kit KIT = new Kit();
    private static final int LEAST = Integer.MIN_VALUE;
    private static final int MOST = Integer.MAX_VALUE;

    public static void main(String[] args) {
        fiveHundredTwelveCalls();
        anEmptyStreet();
        anEmptyTape();
        twentyBytesHighestFirst();
        nineHundredFortyBytes();
        firstBytesAlone();
        endNotSoMany();
        tapeIsEmptyThen();
        tapeStays();
        howManyLines();
        streetStays();
        faultOfTheLatest();
        faultAheadOfAny();
        newStreet();
        newStreetBehindFullOnes();
        newStreetWhatWasToldStays();
        newStreetCannotBeUndone();
        throwsAndChangesNothing();
        refusedCallsLeaveAll();
        fullTapeLeavesAll();
        nothingThere();
        wallsWithoutHouses();
        undoOfEach();
        undoOfWhatWasNotDone();
        undoEightAtMost();
        undoLeavesTheRest();
        undoNone();
        bookJudged();
        bookLived();
        bookAnotherLives();
        bookWrongPost();
        bookWrongQuit();
        bookWrongUp();
        bookWrongHour();
        bookWithoutAWrongLine();
        bookWithAFault();
        toldWhat();
        sentenceStays();
        sentenceOnes();
        saidWhich();
        saidWithoutASentence();
        safeInThisHour();
        flooded();
        upped();
        imagePlaces();
        imageKeepsAll();
        imageKeepsTheSentence();
        imageKeepsTheStreet();
        imageOverAnother();
        imageLeavesAll();
        restoreWhatIsKept();
        restoreNothing();
        restoreLeavesTapeAndTold();
        restoreCannotBeUndone();
        countWhat();
        KIT.finish();
    }

    private static void told(BagsRiver x, int why, int lines, int hour, int saved) {
        KIT.all("told", new int[] {x.told(0), x.told(1), x.told(2), x.told(3)}, why, lines, hour, saved);
    }

    private static void fiveHundredTwelveCalls() {
        KIT.quote("An object is used for at most 512 calls after it has been made");
        BagsRiver x = new BagsRiver();
        for (int i = 0; i < 255; i++) {
            KIT.same("hours", x.hours(1), i < 48 ? 1 : 0);
            KIT.same("now", x.now(0), Math.min(i + 1, 48));
        }
        KIT.same("the 511th call", x.undo(), 7);
        KIT.same("the 512th call", x.now(0), 47);
        BagsRiver y = new BagsRiver();
        for (int i = 0; i < 46; i++) {
            for (int k = 1; k <= 9; k++) {
                KIT.same("feed", y.feed(0x20202020, 0x20202020, 0x20202020, 0x20202020, 0x20202020), 20 * k);
            }
            KIT.same("street", y.street(), 0);
            KIT.same("image", y.image(i % 2) ? 1 : 0, 1);
        }
        KIT.same("the 507th call", y.feed(0x77616c6c, 0x20772039, 0x3b202020, 0x20202020, 0x20202020), 20);
        KIT.same("the 508th call", y.street(), 1);
        KIT.same("the 509th call", y.wall(0, 0), 9);
        KIT.same("the 510th call", y.restore(0) ? 1 : 0, 1);
        KIT.same("the 511th call", y.count(0), 0);
        KIT.same("the 512th call", y.undo(), -1);
    }

    private static void anEmptyStreet() {
        KIT.quote("An empty STREET; an empty tape.");
        BagsRiver x = new BagsRiver();
        KIT.all("count", new int[] {x.count(0), x.count(1), x.count(2), x.count(3), x.count(4), x.count(5)}, 0, 0, 0, 0, 10, 11);
        KIT.all("as an empty text's", Kit.everything(x), Kit.everything(Kit.on("")));
        KIT.all("of texts", Kit.ofTexts(x), 0, -1, -1, -1, -1);
        KIT.same("nothing to undo", x.undo(), -1);
        KIT.same("no SENTENCE", x.said(-1), -1);
        KIT.no("nothing is kept", x.restore(0) || x.restore(1));
        KIT.same("planAt ahead of any", x.planAt(0), -1);
        KIT.same("crewed ahead of any", x.crewed(0), -1);
        KIT.same("walling ahead of any", x.walling(), -1);
        KIT.same("carried ahead of any", x.carried(), -1);
        KIT.same("most ahead of any", x.most(), -1);
    }

    private static void anEmptyTape() {
        KIT.quote("An empty STREET; an empty tape.");
        KIT.same("bytes", new BagsRiver().count(6), 0);
        KIT.yes("end(0)", new BagsRiver().end(0));
        KIT.no("end(1)", new BagsRiver().end(1));
        KIT.same("street()", new BagsRiver().street(), 0);
        KIT.same("book(0)", new BagsRiver().book(0), -1);
        KIT.same("book(1)", new BagsRiver().book(1), -1);
        KIT.same("sentence()", new BagsRiver().sentence(), -1);
        KIT.same("built()", new BagsRiver().built(), -1);
    }

    private static void twentyBytesHighestFirst() {
        KIT.quote("Twenty bytes come behind the tape, of each number the highest first: how many it has");
        BagsRiver x = Kit.on("wall a 1;wall b 2;wall c 4;wall d 8;wall e 16;");
        int[] takes = {0, 1, 3, 6, 10, 15};
        x.feed(0x01020304, 0x05000000, 0, 0, 0);
        x.end(5);
        KIT.same("1 2 3 4 5", x.built(), takes[1] + 2 * takes[2] + 4 * takes[3] + 8 * takes[4] + 16 * takes[5]);
        int[] high = {0x7fffffff, 0x80000000, -1, 0x00ffffff, 0xff000000};
        int[][] bytes = {{0x7f, 0xff, 0xff, 0xff}, {0x80, 0, 0, 0}, {0xff, 0xff, 0xff, 0xff}, {0, 0xff, 0xff, 0xff}, {0xff, 0, 0, 0}};
        for (int i = 0; i < high.length; i++) {
            for (int k = 0; k < 4; k++) {
                BagsRiver y = Kit.on("wall w 1;");
                KIT.same("feed", y.feed(0x3b3b3b3b, 0x3b3b3b3b, high[i], 0x3b3b3b3b, 0x3b3b3b3b), 20);
                y.end(8 + k + 1);
                KIT.same("bytes", y.count(6), 9 + k);
                KIT.same("a byte of " + high[i], isZeroAt(high[i], k), bytes[i][k] == 0 ? 1 : 0);
            }
        }
        BagsRiver z = new BagsRiver();
        KIT.same("twenty", z.feed(0x77616c6c, 0x20772031, 0x3b77616c, 0x6c207620, 0x323b7761), 20);
        KIT.same("behind them", z.feed(0x6c6c2075, 0x20333b20, 0x20202020, 0x0a0a0a0a, 0x20202020), 40);
        KIT.same("LINES", z.street(), 3);
        KIT.all("WIDE", new int[] {z.wall(0, 0), z.wall(1, 0), z.wall(2, 0)}, 1, 2, 3);
    }

    /** A byte of a number is told by built(): 0 is a height. */
    private static int isZeroAt(int number, int k) {
        BagsRiver x = Kit.on("wall w 1;");
        x.feed(number << 8 * k, 0, 0, 0, 0);
        x.end(1);
        return x.built() == 0 ? 1 : 0;
    }

    private static void nineHundredFortyBytes() {
        KIT.quote("NONE, and none come, if it would have more than 940");
        BagsRiver x = Kit.on("");
        int blanks = 0x20202020;
        for (int i = 1; i <= 47; i++) {
            KIT.same("feed", x.feed(blanks, blanks, blanks, blanks, blanks), 20 * i);
        }
        KIT.same("one more", x.feed(1, 2, 3, 4, 5), -1);
        KIT.same("none come", x.count(6), 940);
        x.end(939);
        KIT.same("at 939", x.feed(1, 2, 3, 4, 5), -1);
        KIT.same("none come", x.count(6), 939);
        x.end(921);
        KIT.same("at 921", x.feed(1, 2, 3, 4, 5), -1);
        KIT.same("none come", x.count(6), 921);
        x.end(920);
        KIT.same("at 920", x.feed(blanks, blanks, blanks, blanks, blanks), 940);
        x.end(900);
        KIT.same("blanks alone", x.street(), 0);
        KIT.same("no FAULT", x.fault(), 0);
        KIT.same("empty again", x.feed(0, 0, 0, 0, 0), 20);
    }

    private static void firstBytesAlone() {
        KIT.quote("The tape has its first n bytes alone: true; false, if it has not so many, or n is below 0.");
        BagsRiver x = new BagsRiver();
        Kit.text(x, "wall w 12;wall v 3;");
        KIT.yes("end(8)", x.end(8));
        KIT.same("bytes", x.count(6), 8);
        KIT.no("those behind it are gone", x.end(9));
        Kit.text(x, ";");
        KIT.same("LINES", x.street(), 1);
        KIT.same("WIDE", x.wall(0, 0), 1);
        Kit.text(x, "wall w 12;wall v 3;");
        KIT.yes("all of them", x.end(19));
        KIT.same("LINES", x.street(), 2);
        Kit.text(x, "wall w 12;wall v 3;");
        KIT.yes("none of them", x.end(0));
        KIT.same("LINES", x.street(), 0);
    }

    private static void endNotSoMany() {
        KIT.quote("The tape has its first n bytes alone: true; false, if it has not so many, or n is below 0.");
        BagsRiver x = new BagsRiver();
        KIT.yes("end(0) of none", x.end(0));
        KIT.no("end(1) of none", x.end(1));
        Kit.text(x, "wall w 7;");
        for (int bad : new int[] {-1, 10, 20, 940, 941, LEAST, MOST}) {
            KIT.no("end(" + bad + ")", x.end(bad));
            KIT.same("bytes", x.count(6), 9);
        }
        KIT.yes("end(9)", x.end(9));
        KIT.same("LINES", x.street(), 1);
    }

    private static void tapeIsEmptyThen() {
        KIT.quote("The tape (empty then, here and below, whatever is answered, but where it is told that it stays)");
        BagsRiver x = Kit.on(Kit.STREET);
        String[] texts = {"", "wall", "hour 1;", "safe", "wall w 1;", Kit.repeat(" ", 940), "\u0003\u0002", "\u00ff"};
        for (String text : texts) {
            Kit.text(x, text);
            x.book(0);
            KIT.same("behind book(0)", x.count(6), 0);
            Kit.text(x, text);
            x.book(1);
            KIT.same("behind book(1)", x.count(6), 0);
            x.undo();
            Kit.text(x, text);
            x.sentence();
            KIT.same("behind sentence()", x.count(6), 0);
            Kit.text(x, text);
            x.built();
            KIT.same("behind built()", x.count(6), 0);
            BagsRiver y = Kit.on(Kit.STREET);
            Kit.text(y, text);
            y.street();
            KIT.same("behind street()", y.count(6), 0);
        }
    }

    private static void tapeStays() {
        KIT.quote("-1000: another lives (the tape stays)");
        BagsRiver x = Kit.on(Kit.STREET);
        Kit.text(x, "hour 3;");
        for (int bad : new int[] {-1, 2, LEAST, MOST}) {
            KIT.same("book(" + bad + ")", x.book(bad), -1000);
        }
        x.hours(1);
        x.post(1, 1, 0);
        x.quit(0);
        x.up(0);
        x.undo();
        x.drawn(1, 1);
        x.odds(0, 1, 1);
        x.plan(9, 0);
        x.crew(1);
        x.rests(0, 1);
        x.carpets(1);
        x.last();
        x.image(0);
        x.restore(0);
        x.said(-1);
        KIT.same("bytes", x.count(6), 7);
        KIT.same("the BOOK", x.book(0), -1);
        KIT.same("its HOUR", x.told(2), 5);
    }

    private static void howManyLines() {
        KIT.quote("how many LINES; -1 less the place of a FAULT: the STREET stays (the tape is empty, too)");
        BagsRiver x = new BagsRiver();
        KIT.same("none", x.street(), 0);
        KIT.same("one", Kit.street(x, "sand 5;"), 1);
        KIT.same("two", Kit.street(x, "sand 5;wall w 1;"), 2);
        KIT.same("17", Kit.street(x, Kit.STREET), 17);
        KIT.same("a FAULT at 0", Kit.street(x, ";"), -1);
        KIT.same("a FAULT at 1", Kit.street(x, " ;"), -2);
        KIT.same("a FAULT at 900", Kit.street(x, Kit.repeat(" ", 901)), -901);
        KIT.same("a FAULT at the end", Kit.street(x, "sand 5"), -7);
    }

    private static void streetStays() {
        KIT.quote("-1 less the place of a FAULT: the STREET stays (the tape is empty, too)");
        String[] wrong = {"?", "wall", "wall w 1;wall w 2;", "people 7;sand 5;rate 3;gauge 0 9;crest 7 7;wall w 0;", Kit.STREET + "x",
            "house a outside 1 1;house b outside 1 1;house c outside 1 1;house d w 1 1;", Kit.STREET + Kit.repeat(" ", 690)};
        for (String text : wrong) {
            BagsRiver x = Kit.on(Kit.STREET);
            lived(x);
            int[] before = Kit.everything(x);
            KIT.yes("a FAULT", Kit.street(x, text) < 0);
            KIT.all("all stays", Kit.everything(x), before);
            KIT.same("what can be undone stays", x.undo(), 2);
            KIT.same("the names stay", Kit.book(x, "quit right;up hall;post 1 2 sink;", 0), -1);
        }
    }

    /** Three acts and a SENTENCE. */
    private static void lived(BagsRiver x) {
        x.post(8, 4, 0);
        x.hours(3);
        x.up(1);
        Kit.sentence(x, "upped or outside");
    }

    private static void faultOfTheLatest() {
        KIT.quote("The kind of the FAULT of the latest street(), book() or sentence() (a book() of -1000 leaves it); 0 without "
            + "one and ahead of any.");
        BagsRiver x = Kit.on("wall w 1;");
        KIT.same("without one", x.fault(), 0);
        for (int i = 0; i < 3; i++) {
            faulty(x, "?", 1, i);
        }
        KIT.same("street", Kit.street(x, "wall w 21;") < 0 ? x.fault() : 0, 2);
        KIT.same("book", Kit.book(x, "quit nobody;", 0) < 0 ? x.fault() : 0, 3);
        KIT.same("sentence", Kit.sentence(x, Kit.repeat("not ", 8) + "safe") < 0 ? x.fault() : 0, 4);
        for (int bad : new int[] {-1, 2, LEAST, MOST}) {
            KIT.same("another lives", x.book(bad), -1000);
            KIT.same("it is left", x.fault(), 4);
        }
        x.built();
        x.hours(1);
        x.image(0);
        x.restore(0);
        KIT.same("other calls leave it", x.fault(), 4);
        Kit.sentence(x, "safe");
        KIT.same("a SENTENCE without one", x.fault(), 0);
        Kit.street(x, "?");
        Kit.book(x, "hour 24;hour 24;hour 24;", 0);
        KIT.same("a BOOK that is WRONG has none", x.fault(), 0);
        Kit.book(x, "?", 0);
        Kit.street(x, "");
        KIT.same("a STREET without one", x.fault(), 0);
    }

    private static void faulty(BagsRiver x, String text, int kind, int sort) {
        int answer = sort == 0 ? Kit.street(x, text) : sort == 1 ? Kit.book(x, text, 1) : Kit.sentence(x, text);
        KIT.yes("a FAULT", answer < -1 || answer == -1 && sort != 1);
        KIT.same("its kind", x.fault(), kind);
        KIT.same("of a text without one", Kit.sentence(x, "safe") - 1 + x.fault(), 0);
    }

    private static void faultAheadOfAny() {
        KIT.quote("0 without one and ahead of any");
        BagsRiver x = new BagsRiver();
        KIT.same("ahead of any", x.fault(), 0);
        x.book(7);
        KIT.same("still ahead of any", x.fault(), 0);
        Kit.text(x, "?");
        KIT.same("not read yet", x.fault(), 0);
        x.built();
        KIT.same("built() has none", x.fault(), 0);
        x.restore(0);
        KIT.same("nor has restore()", x.fault(), 0);
    }

    private static void newStreet() {
        KIT.quote("A new STREET: HOUR 0, no bags, nobody posted or TIRED, no SENTENCE; nothing can be undone");
        String[] streets = {"", "wall z 2;", Kit.STREET, "house h outside 9 3;gauge 0 7;"};
        for (String street : streets) {
            BagsRiver x = Kit.on(Kit.STREET);
            lived(x);
            x.post(8, 3, 10);
            x.drawn(9, 0);
            x.quit(1);
            KIT.yes("it has been lived in", x.now(6) != 0 && x.now(7) > 0 && x.drain(0, 3) > 0 && x.now(9) > 0);
            KIT.yes("read", Kit.street(x, street) >= 0);
            KIT.all("as new", Kit.everything(x), Kit.everything(Kit.on(street)));
            KIT.same("nothing can be undone", x.undo(), -1);
            KIT.same("no SENTENCE", x.said(-1), -1);
            KIT.all("HOUR, TIRED, RAIN, carried", new int[] {x.now(0), x.now(4), x.now(7), x.now(9)}, 0, 0, 0, 0);
        }
    }

    private static void newStreetBehindFullOnes() {
        KIT.quote("A new STREET: HOUR 0, no bags, nobody posted or TIRED");
        String full = "wall a 1;wall b 1;house c b 9 0;house d outside 9 0;drain e b 0 9;crest 60 1;gauge 0 60;people 2;sand 3;rate 4;";
        String small = "wall z 2;house h z 5 3;";
        BagsRiver x = new BagsRiver();
        for (String text : new String[] {full, full, small, small, "", ""}) {
            Kit.street(x, text);
        }
        KIT.all("an empty one", Kit.everything(x), Kit.everything(new BagsRiver()));
        Kit.street(x, full);
        Kit.street(x, small);
        Kit.street(x, small);
        KIT.all("a small one", Kit.everything(x), Kit.everything(Kit.on(small)));
        KIT.same("no crests: CARPETS", x.carpets(9), 0);
        KIT.same("no crests: GAME", x.rests(0, 0), 2);
        KIT.same("no crests: PLAN", Kit.caught(() -> x.plan(9, 0)), Kit.THROWS);
        KIT.same("HOUSES", x.wall(0, 4), 1);
        KIT.same("DRAINS", x.wall(0, 5), 0);
        for (String name : "a b c d e".split(" ")) {
            KIT.same("no WALL of that NAME", Kit.book(x, "quit " + name + ";", 0), -7);
            KIT.same("no HOUSE of that NAME", Kit.book(x, "up " + name + ";", 0), -5);
            KIT.same("no DRAIN of that NAME", Kit.book(x, "post 1 1 " + name + ";", 0), -11);
        }
        Kit.street(x, "crest 5 1;gauge 5 5;" + small);
        KIT.same("no crest of those ahead", Kit.caught(() -> x.sure(60, 6, 0)), Kit.THROWS);
        KIT.same("no gauge of those ahead", x.now(1), 0);
        Kit.street(x, "drain e a 0 9;");
        KIT.same("no NAME of those ahead", x.fault(), 3);
        Kit.street(x, small + "wall a 1;house c a 1 1;drain e a 1 1;");
        KIT.same("those NAMES are free again", x.fault(), 0);
    }

    private static void newStreetWhatWasToldStays() {
        KIT.quote("nothing can be undone (what other calls told last stays)");
        BagsRiver x = Kit.on(Kit.STREET);
        x.plan(165, 0);
        x.crew(1);
        x.rests(0, 39);
        x.carpets(2);
        Kit.bytes(x, 3, 2);
        x.built();
        Kit.book(x, "hour 3;hour 2;", 0);
        x.image(1);
        int[] before = {x.planAt(0), x.planAt(1), x.crewed(0), x.crewed(1), x.walling(), x.carried(), x.most(), x.told(0), x.told(1),
            x.told(2), x.told(3)};
        KIT.all("told", before, 10, 10, 8, 4, 0, 5, 20, 0, 2, 5, 60);
        KIT.same("a new STREET", Kit.street(x, "wall a 1;wall b 1;house h outside 3 3;"), 3);
        int[] behind = {x.planAt(0), x.planAt(1), x.crewed(0), x.crewed(1), x.walling(), x.carried(), x.most(), x.told(0), x.told(1),
            x.told(2), x.told(3)};
        KIT.all("it stays", behind, before);
        KIT.yes("what is kept stays", x.restore(1));
        KIT.same("HOUSES", x.count(1), 5);
    }

    private static void newStreetCannotBeUndone() {
        KIT.quote("nothing can be undone (what other calls told last stays)");
        BagsRiver x = Kit.on(Kit.STREET);
        lived(x);
        Kit.street(x, Kit.STREET);
        KIT.same("nothing", x.undo(), -1);
        KIT.same("HOUR", x.now(0), 0);
        x.hours(2);
        KIT.same("what is done since", x.undo(), 0);
        KIT.same("nothing more", x.undo(), -1);
    }

    private static void throwsAndChangesNothing() {
        KIT.quote("A call that throws changes nothing.");
        KIT.leavesAll("house, plan, sure", x -> {
            Kit.street(x, Kit.STREET);
            x.plan(36, 0);
            lived(x);
            x.image(0);
            Kit.sentence(x, "?");
            Kit.text(x, "abc");
        }, x -> {
            KIT.same("house", Kit.caught(() -> x.house(5, 0)), Kit.THROWS);
            KIT.same("house what", Kit.caught(() -> x.house(0, 6)), Kit.THROWS);
            KIT.same("plan", Kit.caught(() -> x.plan(1000, 0)), Kit.THROWS);
            KIT.same("plan what", Kit.caught(() -> x.plan(165, 2)), Kit.THROWS);
            KIT.same("sure", Kit.caught(() -> x.sure(0, 13, 0)), Kit.THROWS);
            KIT.same("sure what", Kit.caught(() -> x.sure(0, 0, 2)), Kit.THROWS);
        });
    }

    /** What a refused call answers, by calls that are refused for one reason each; NoSuchElementException is Kit.THROWS. */
    private static void refusedCallsLeaveAll() {
        KIT.quote("Nothing is promised beyond the answers and state changes described above");
        refused("end(-1)", 0, x -> x.end(-1) ? 1 : 0);
        refused("end(4)", 0, x -> x.end(4) ? 1 : 0);
        for (int bad : new int[] {-1, LEAST, MOST}) {
            refused("wall", -1, x -> x.wall(bad, 0));
            refused("wall what", -1, x -> x.wall(0, bad));
            refused("house", Kit.THROWS, x -> x.house(bad, 0));
            refused("house what", Kit.THROWS, x -> x.house(0, bad));
            refused("drain", -1, x -> x.drain(bad, 0));
            refused("drain what", -1, x -> x.drain(0, bad));
            refused("now", -1, x -> x.now(bad));
            refused("posted", -1, x -> x.posted(bad));
            refused("post F", -1, x -> x.post(bad, 0, 0));
            refused("post C", -1, x -> x.post(0, bad, 0));
            refused("post w", -1, x -> x.post(0, 0, bad));
            refused("quit", -1, x -> x.quit(bad));
            refused("up", -1, x -> x.up(bad));
            refused("hours", -1, x -> x.hours(bad));
            refused("takes", -1, x -> x.takes(bad, 0));
            refused("takes h", -1, x -> x.takes(0, bad));
            refused("lacks", -1, x -> x.lacks(bad));
            refused("plan", Kit.THROWS, x -> x.plan(bad, 0));
            refused("plan what", Kit.THROWS, x -> x.plan(0, bad));
            refused("planAt", -1, x -> x.planAt(bad));
            refused("sure h", Kit.THROWS, x -> x.sure(bad, 0, 0));
            refused("sure l", Kit.THROWS, x -> x.sure(0, bad, 0));
            refused("sure what", Kit.THROWS, x -> x.sure(0, 0, bad));
            refused("crew", -1, x -> x.crew(bad));
            refused("crewed", -1, x -> x.crewed(bad));
            refused("rests", -1, x -> x.rests(bad, 0));
            refused("rests b", -1, x -> x.rests(0, bad));
            refused("due", -1, x -> x.due(bad, 0));
            refused("due w", -1, x -> x.due(3, bad));
            refused("leaks", -1, x -> x.leaks(bad, 0));
            refused("leaks h", -1, x -> x.leaks(0, bad));
            refused("when", -1, x -> x.when(bad));
            refused("carpets", -1, x -> x.carpets(bad));
            refused("drawn", -1, x -> x.drawn(bad, 0));
            refused("odds", -1, x -> x.odds(bad, 1, 0));
            refused("odds n", -1, x -> x.odds(0, bad, 0));
            refused("book", -1000, x -> x.book(bad));
            refused("told", -1, x -> x.told(bad));
            refused("said", bad == -1 ? 3 : -1, x -> x.said(bad));
            refused("image", 0, x -> x.image(bad) ? 1 : 0);
            refused("restore", 0, x -> x.restore(bad) ? 1 : 0);
            refused("count", -1, x -> x.count(bad));
        }
        refused("restore(0)", 0, x -> x.restore(0) ? 1 : 0);
    }

    private static void refused(String call, int due, ToIntFunction<BagsRiver> refused) {
        KIT.leavesAll(call, x -> {
            Kit.street(x, Kit.STREET);
            x.image(1);
            x.plan(165, 0);
            x.crew(1);
            x.rests(0, 39);
            x.carpets(2);
            Kit.book(x, "hour 3;post 0 0 left;", 1);
            lived(x);
            Kit.text(x, "abc");
        }, x -> KIT.same(call, Kit.caught(() -> refused.applyAsInt(x)), due));
    }

    private static void fullTapeLeavesAll() {
        KIT.quote("NONE, and none come, if it would have more than 940");
        BagsRiver x = new BagsRiver();
        Kit.text(x, Kit.padded("wall w 1;wall v 2;", 890) + "wall u 30;" + Kit.repeat(" ", 40));
        KIT.same("full", x.feed(-1, -1, -1, -1, -1), -1);
        KIT.yes("the first 900", x.end(900));
        KIT.same("they are as they were", x.street(), -898);
        KIT.same("a NUMBER", x.fault(), 2);
    }

    /** Every call on a STREET that has nothing. */
    private static void nothingThere() {
        KIT.quote("An empty STREET; an empty tape.");
        BagsRiver x = new BagsRiver();
        KIT.no("end", x.end(1));
        KIT.all("of WALLS", new int[] {x.wall(0, 0), x.quit(0), x.takes(0, 0), x.lacks(0), x.planAt(0), x.rests(0, 0), x.leaks(0, 0)},
            -1, -1, -1, -1, -1, -1, -1);
        KIT.all("of HOUSES", new int[] {Kit.caught(() -> x.house(0, 0)), x.up(0), x.due(0, 0), x.when(0), x.odds(0, 1, 0),
            x.carpets(0), x.carpets(10), x.carried(), x.now(6), x.now(8), x.last()}, Kit.THROWS, -1, -1, -1, -1, 0, 0, 0, 0, 0, 0);
        KIT.all("of DRAINS", new int[] {x.drain(0, 0), x.post(0, 0, 10)}, -1, -1);
        KIT.all("of crests", new int[] {Kit.caught(() -> x.plan(0, 0)), Kit.caught(() -> x.sure(0, 0, 0)),
            Kit.caught(() -> x.sure(60, 0, 1))}, Kit.THROWS, Kit.THROWS, Kit.THROWS);
        KIT.all("of people", new int[] {x.post(0, 0, 0), x.post(1, 0, 0), x.crew(1), x.crewed(0), x.crewed(1), x.posted(0)},
            -1, -1, 0, 0, 0, 0);
        KIT.all("of texts", new int[] {x.built(), x.most(), x.sentence(), x.fault(), x.said(-1), x.book(0), x.fault(), x.told(1),
            x.street(), x.fault()}, -1, -1, -1, 1, -1, -1, 0, 0, 0, 0);
        KIT.all("of what is kept", new int[] {x.restore(0) ? 1 : 0, x.restore(1) ? 1 : 0, x.undo(), x.image(0) ? 1 : 0,
            x.restore(0) ? 1 : 0}, 0, 0, -1, 1, 1);
        KIT.all("HOURS go", new int[] {x.hours(24), x.drawn(23, 0), x.now(0), x.crew(1), x.crew(2), x.hours(2), x.undo()},
            24, 23, 47, 0, -1, 1, 2);
    }

    private static void wallsWithoutHouses() {
        KIT.quote("4 HOUSES behind it, as bits, 5 its DRAINS, as bits. NONE: no such ones.");
        BagsRiver x = Kit.on("wall w 1;");
        KIT.all("its WALL", new int[] {x.wall(0, 4), x.wall(0, 5), x.leaks(0, 60), x.lacks(0), x.rests(0, 999), x.walling()},
            0, 0, 0, 0, 1, 0);
        KIT.all("no HOUSES", new int[] {x.now(6), x.now(8), x.last(), x.carpets(10), x.when(0), x.due(0, 1)}, 0, 0, 0, 0, -1, -1);
        KIT.same("a SENTENCE", Kit.sentence(x, "behind w or not safe"), 3);
        KIT.same("of none", x.said(-1), 0);
        KIT.same("none such", x.said(0), -1);
        BagsRiver y = Kit.on("house h outside 9 0;");
        KIT.all("no WALLS", new int[] {y.post(1, 1, 0), y.hours(24), y.last(), y.when(0), y.due(0, 9), y.odds(0, 1, 60)},
            -1, 24, 9, -1, 9, 1);
    }

    private static void undoOfEach() {
        KIT.quote("The latest of post(), quit(), up() that was done, hours() above 0, drawn() above 0, a BOOK of which a LINE was "
            + "lived is undone: how many more can be (8 at most are kept); NONE: none is.");
        BagsRiver x = Kit.on(Kit.STREET);
        int[][] before = new int[6][];
        Runnable[] acts = {() -> x.post(8, 4, 10), () -> x.hours(2), () -> x.quit(1), () -> x.up(0), () -> x.drawn(5, 0),
            () -> Kit.book(x, "hour 1;up shop;up mill;up hall;", 1)};
        for (int i = 0; i < acts.length; i++) {
            before[i] = new int[] {x.now(0), x.now(2), x.now(4), x.now(6), x.now(7), x.now(9), x.posted(0), x.posted(2), x.drain(0, 3),
                x.wall(1, 3), x.house(0, 5), x.house(1, 5), x.house(0, 4)};
            acts[i].run();
        }
        KIT.same("a LINE of the BOOK was lived", x.told(1), 1);
        for (int i = acts.length - 1; i >= 0; i--) {
            KIT.same("undo " + i, x.undo(), i);
            KIT.all("undone " + i, new int[] {x.now(0), x.now(2), x.now(4), x.now(6), x.now(7), x.now(9), x.posted(0), x.posted(2),
                x.drain(0, 3), x.wall(1, 3), x.house(0, 5), x.house(1, 5), x.house(0, 4)}, before[i]);
        }
        KIT.same("none is", x.undo(), -1);
    }

    private static void undoOfWhatWasNotDone() {
        KIT.quote("The latest of post(), quit(), up() that was done, hours() above 0, drawn() above 0, a BOOK of which a LINE was "
            + "lived is undone");
        BagsRiver x = Kit.on(Kit.STREET);
        x.hours(5);
        x.post(1, 1, 1);
        x.quit(1);
        x.up(1);
        x.post(1, 1, 1);
        x.post(13, 1, 1);
        x.quit(1);
        x.quit(2);
        x.up(1);
        x.up(2);
        x.up(5);
        x.hours(0);
        x.hours(25);
        x.drawn(0, 0);
        x.drawn(25, 0);
        Kit.book(x, "hour 2;", 0);
        Kit.book(x, "", 1);
        Kit.book(x, "quit right;hour 1;", 1);
        Kit.book(x, "hour 1;hour", 1);
        Kit.book(x, "hour 25;", 1);
        x.book(2);
        Kit.sentence(x, "safe");
        x.crew(1);
        x.plan(9, 0);
        x.last();
        x.image(0);
        Kit.street(x, "?");
        KIT.same("of four the latest", x.undo(), 3);
        KIT.same("things are not UP", x.house(1, 5), 0);
        BagsRiver over = Kit.on("");
        over.hours(24);
        over.hours(24);
        over.hours(1);
        over.drawn(1, 0);
        Kit.book(over, "hour 1;", 1);
        KIT.same("of two", over.undo(), 1);
        KIT.same("HOUR", over.now(0), 24);
    }

    private static void undoEightAtMost() {
        KIT.quote("how many more can be (8 at most are kept)");
        for (int acts = 1; acts <= 20; acts++) {
            BagsRiver x = Kit.on("");
            for (int i = 0; i < acts; i++) {
                x.hours(1);
            }
            int kept = Math.min(acts, 8);
            for (int more = kept - 1; more >= 0; more--) {
                KIT.same("undo of " + acts, x.undo(), more);
                KIT.same("HOUR", x.now(0), acts - kept + more);
            }
            KIT.same("no more", x.undo(), -1);
            KIT.same("HOUR", x.now(0), acts - kept);
        }
        BagsRiver y = Kit.on("");
        for (int i = 1; i <= 20; i++) {
            y.hours(2);
            y.hours(1);
            KIT.same("one back", y.undo(), Math.min(i, 7));
            KIT.same("HOUR", y.now(0), 2 * i);
        }
    }

    private static void undoLeavesTheRest() {
        KIT.quote("is undone: how many more can be");
        BagsRiver x = Kit.on(Kit.STREET);
        x.post(8, 4, 0);
        x.hours(5);
        Kit.sentence(x, "flooded");
        KIT.same("it may be said of one", x.said(-1), 1);
        x.plan(36, 0);
        x.crew(1);
        x.image(0);
        Kit.book(x, "?", 0);
        Kit.text(x, "abc");
        KIT.same("undone", x.undo(), 1);
        KIT.same("the SENTENCE stays, said of what is so now", x.said(-1), 0);
        KIT.same("planAt stays", x.planAt(0), 8);
        KIT.same("crewed stays", x.crewed(1), 4);
        KIT.same("the FAULT stays", x.fault(), 1);
        KIT.same("the tape stays", x.count(6), 3);
        KIT.yes("what is kept stays", x.restore(0));
        KIT.same("HOUR", x.now(0), 5);
    }

    private static void undoNone() {
        KIT.quote("NONE: none is.");
        KIT.same("a new object", new BagsRiver().undo(), -1);
        KIT.leavesAll("nothing to undo", x -> Kit.street(x, Kit.STREET), x -> KIT.same("none", x.undo(), -1));
        BagsRiver x = Kit.on(Kit.STREET);
        x.up(0);
        KIT.same("none more", x.undo(), 0);
        KIT.same("none", x.undo(), -1);
        KIT.same("an undone one is not kept", x.undo(), -1);
        x.up(0);
        KIT.same("done again", x.undo(), 0);
    }

    private static void bookJudged() {
        KIT.quote("The tape is a BOOK: it is judged, all staying as it is (lives 0), or lived as far as it is not WRONG (1)");
        String[] books = {"hour 24;", "post 1 1 sink;hour 5;quit left;up mill;", "quit right;quit right;", "post 8 4 left;", ""};
        for (String book : books) {
            BagsRiver x = Kit.on(Kit.STREET);
            lived(x);
            int[] before = Kit.everything(x);
            Kit.book(x, book, 0);
            KIT.all("all stays behind " + book, Kit.everything(x), before);
            KIT.same("what can be undone stays", x.undo(), 2);
        }
    }

    private static void bookLived() {
        KIT.quote("or lived as far as it is not WRONG (1): the LINE that is WRONG (from 0); NONE: none");
        BagsRiver x = Kit.on(Kit.STREET);
        KIT.same("the last LINE is WRONG", Kit.book(x, "post 8 4 left;hour 2;up shop;up shop;", 1), 3);
        KIT.all("lived as far", new int[] {x.posted(0), x.now(0), x.house(1, 5), x.now(4)}, 8, 2, 1, 3);
        KIT.same("one act to undo", x.undo(), 0);
        KIT.all("all of it", new int[] {x.posted(0), x.now(0), x.house(1, 5), x.now(4)}, 0, 0, 0, 0);
        KIT.same("the first LINE is WRONG", Kit.book(x, "post 0 0 left;hour 2;", 1), 0);
        KIT.same("nothing is lived", x.now(0), 0);
        KIT.same("nothing to undo", x.undo(), -1);
        KIT.same("the second LINE is WRONG", Kit.book(x, "hour 1;post 0 0 left;hour 2;", 1), 1);
        KIT.same("one is lived", x.now(0), 1);
        KIT.same("none is WRONG", Kit.book(x, "hour 1;hour 2;", 1), -1);
        KIT.same("all are lived", x.now(0), 4);
        KIT.same("judged alike", Kit.book(x, "hour 1;quit left;quit left;", 0), 2);
        KIT.same("and lived", Kit.book(x, "hour 1;quit left;quit left;", 1), 2);
    }

    private static void bookAnotherLives() {
        KIT.quote("-1000: another lives (the tape stays)");
        for (int bad : new int[] {-1, 2, 3, LEAST, MOST}) {
            KIT.leavesAll("book(" + bad + ")", x -> {
                Kit.street(x, Kit.STREET);
                Kit.book(x, "hour 2;hour 1;hour", 1);
                Kit.book(x, "hour 1;up mill;up mill;", 1);
                Kit.text(x, "hour 1;");
            }, x -> KIT.same("book(" + bad + ")", x.book(bad), -1000));
        }
        BagsRiver x = new BagsRiver();
        KIT.same("an empty tape", x.book(2), -1000);
        KIT.same("told ahead of any", x.told(0), -1);
    }

    private static void bookWrongPost() {
        KIT.quote("1 posted just so, 9 more than there are people");
        BagsRiver x = Kit.on(Kit.STREET);
        KIT.same("just so at first", Kit.book(x, "post 0 0 left;", 0), 0);
        told(x, 1, 0, 0, 150);
        KIT.same("another place", Kit.book(x, "post 0 0 right;post 0 0 left;post 0 0 sink;", 0), -1);
        told(x, 0, 3, 0, 150);
        KIT.same("just so", Kit.book(x, "post 3 4 sink;post 3 4 sink;", 0), 1);
        told(x, 1, 1, 0, 150);
        KIT.same("as many as there are", Kit.book(x, "post 6 6 left;post 12 0 left;post 0 12 left;", 0), -1);
        KIT.same("one more", Kit.book(x, "post 6 7 left;", 0), 0);
        told(x, 9, 0, 0, 150);
        KIT.same("one more who fills", Kit.book(x, "post 13 0 left;", 0), 0);
        KIT.same("one more who carries", Kit.book(x, "post 0 13 left;", 0), 0);
        KIT.same("sixty each", Kit.book(x, "post 60 60 left;", 0), 0);
        told(x, 9, 0, 0, 150);
        BagsRiver sixty = Kit.on("wall w 1;people 60;");
        KIT.same("sixty of sixty", Kit.book(sixty, "post 60 0 w;post 0 60 w;post 30 30 w;", 1), -1);
        KIT.same("sixty and one", Kit.book(sixty, "post 60 1 w;", 1), 0);
    }

    private static void bookWrongQuit() {
        KIT.quote("11 as for quitting");
        BagsRiver x = Kit.on(Kit.STREET);
        KIT.same("it was QUIT in the BOOK", Kit.book(x, "quit left;quit right;quit left;", 1), 2);
        told(x, 11, 2, 0, 150);
        KIT.same("it was QUIT ahead of it", Kit.book(x, "quit right;", 1), 0);
        told(x, 11, 0, 0, 150);
    }

    private static void bookWrongUp() {
        KIT.quote("21, 22 for carrying UP");
        BagsRiver x = Kit.on(Kit.STREET);
        KIT.same("they are", Kit.book(x, "up mill;up mill;", 0), 1);
        told(x, 22, 1, 0, 150);
        KIT.same("it is flooded in the BOOK", Kit.book(x, "hour 4;up inn;hour 1;up mill;", 0), 3);
        told(x, 21, 3, 5, 60 + 25);
        KIT.same("flooded and UP", Kit.book(x, "up inn;hour 5;up inn;", 0), 2);
        told(x, 21, 2, 5, 60 + 25);
    }

    private static void bookWrongHour() {
        KIT.quote("31: fewer HOURS are left");
        BagsRiver x = Kit.on("");
        KIT.same("all 48", Kit.book(x, "hour 24;hour 24;", 0), -1);
        told(x, 0, 2, 48, 0);
        KIT.same("one more", Kit.book(x, "hour 24;hour 23;hour 2;", 0), 2);
        told(x, 31, 2, 47, 0);
        KIT.same("one at the end", Kit.book(x, "hour 24;hour 24;hour 1;", 0), 2);
        told(x, 31, 2, 48, 0);
        x.hours(24);
        KIT.same("24 are left", Kit.book(x, "hour 24;", 0), -1);
        x.hours(1);
        KIT.same("23 are left", Kit.book(x, "hour 24;", 1), 0);
        told(x, 31, 0, 25, 0);
        KIT.same("none goes by", x.now(0), 25);
        KIT.same("23", Kit.book(x, "hour 23;", 1), -1);
        KIT.same("all are over", x.now(0), 48);
    }

    private static void bookWithoutAWrongLine() {
        KIT.quote("1 how many LINES are ahead of the one that is WRONG (all, if none is)");
        BagsRiver x = Kit.on(Kit.STREET);
        KIT.same("no LINES", Kit.book(x, "", 0), -1);
        told(x, 0, 0, 0, 150);
        KIT.same("one", Kit.book(x, "hour 1;", 0), -1);
        told(x, 0, 1, 1, 150);
        KIT.same("forty", Kit.book(x, Kit.repeat("hour 1;", 40), 0), -1);
        told(x, 0, 40, 40, 30);
        KIT.same("the 40th is WRONG", Kit.book(x, Kit.repeat("hour 1;", 39) + "hour 10;", 0), 39);
        told(x, 31, 39, 39, 30);
        KIT.same("the first is WRONG", Kit.book(x, "post 0 0 left;" + Kit.repeat("hour 1;", 39), 0), 0);
        told(x, 1, 0, 0, 150);
    }

    private static void bookWithAFault() {
        KIT.quote("-2 less the place of a FAULT");
        BagsRiver x = Kit.on(Kit.STREET);
        KIT.same("at 0", Kit.book(x, ";", 0), -2);
        KIT.same("at 1", Kit.book(x, " ;", 0), -3);
        KIT.same("at the end", Kit.book(x, "hour 1;hour 1", 1), -15);
        KIT.same("at 400", Kit.book(x, Kit.repeat(" ", 401), 1), -402);
        KIT.same("nothing is told", x.told(0), -1);
        KIT.same("nothing is lived", x.now(0), 0);
        KIT.same("nothing to undo", x.undo(), -1);
        KIT.leavesAll("a FAULT behind fine LINES", y -> {
            Kit.street(y, Kit.STREET);
            Kit.book(y, "hour 3;up inn;", 1);
            Kit.book(y, "?", 1);
        }, y -> KIT.same("a FAULT", Kit.book(y, "hour 1;quit left;?", 1), -19));
    }

    private static void toldWhat() {
        KIT.quote("Of the latest book() that had no FAULT (and was not -1000): 0 why it was WRONG (0: it was not; 1 posted just "
            + "so, 9 more than there are people; 11 as for quitting; 21, 22 for carrying UP; 31: fewer HOURS are left), 1 how "
            + "many LINES are ahead of the one that is WRONG (all, if none is), 2 the HOUR then, 3 SAVED then. NONE: another "
            + "what, or ahead of any.");
        BagsRiver x = Kit.on(Kit.STREET);
        KIT.all("ahead of any", Kit.ofTexts(x), 0, -1, -1, -1, -1);
        Kit.book(x, "hour", 0);
        x.book(5);
        KIT.all("still ahead of any", Kit.ofTexts(x), 1, -1, -1, -1, -1);
        Kit.book(x, "hour 5;up inn;", 0);
        told(x, 21, 1, 5, 60);
        Kit.book(x, "hour", 0);
        x.book(5);
        told(x, 21, 1, 5, 60);
        for (int bad : new int[] {-1, 4, LEAST, MOST}) {
            KIT.same("told(" + bad + ")", x.told(bad), -1);
        }
        x.hours(9);
        Kit.street(x, "");
        told(x, 21, 1, 5, 60);
        x.book(0);
        told(x, 0, 0, 0, 0);
    }

    private static void sentenceStays() {
        KIT.quote("-1 less the place of a FAULT: the SENTENCE stays.");
        String[] wrong = {"", "?", "safe or", "not flooded and behind nobody", Kit.repeat("not ", 8) + "safe", "worth<50 or worth<1000",
            "safe" + Kit.repeat(" or safe", 20), Kit.repeat(" ", 201)};
        for (String text : wrong) {
            BagsRiver x = Kit.on(Kit.STREET);
            KIT.yes("a FAULT", Kit.sentence(x, text) < 0);
            KIT.same("no SENTENCE", x.said(-1), -1);
            KIT.same("a SENTENCE", Kit.sentence(x, "number>0 and not (number=2 or worth<20)"), 5);
            KIT.yes("a FAULT", Kit.sentence(x, text) < 0);
            KIT.same("it stays", Kit.saidBits(x), 2 + 8);
        }
        BagsRiver x = Kit.on(Kit.STREET);
        KIT.same("at 0", Kit.sentence(x, ""), -1);
        KIT.same("at 1", Kit.sentence(x, " "), -2);
        KIT.same("at 200", Kit.sentence(x, Kit.repeat(" ", 201)), -201);
    }

    private static void sentenceOnes() {
        KIT.quote("The tape is the SENTENCE now: how many ONES (each not, bracket and other one)");
        BagsRiver x = Kit.on(Kit.STREET);
        KIT.same("one", Kit.sentence(x, "safe"), 1);
        KIT.same("a not", Kit.sentence(x, "not safe"), 2);
        KIT.same("a bracket", Kit.sentence(x, "(safe)"), 2);
        KIT.same("a comparison is one", Kit.sentence(x, "worth<5"), 1);
        KIT.same("behind is one", Kit.sentence(x, "behind left"), 1);
        KIT.same("or and and are none", Kit.sentence(x, "safe or safe and safe"), 3);
        KIT.same("all sorts", Kit.sentence(x, "not(flooded or upped)and outside or not not(behind left)"), 9);
        KIT.same("the latest is the SENTENCE", Kit.sentence(x, "number=4"), 1);
        KIT.same("of the latest", Kit.saidBits(x), 16);
    }

    private static void saidWhich() {
        KIT.quote("HOUSES of which it may be said: how many (k NONE), or the k-th. NONE: there is no SENTENCE, none such.");
        BagsRiver x = Kit.on(Kit.STREET);
        Kit.sentence(x, "number=1 or number>2");
        KIT.same("how many", x.said(-1), 3);
        KIT.all("which", new int[] {x.said(0), x.said(1), x.said(2)}, 1, 3, 4);
        for (int bad : new int[] {-2, 3, 4, 5, 10, 31, 32, LEAST, MOST}) {
            KIT.same("said(" + bad + ")", x.said(bad), -1);
        }
        Kit.sentence(x, "number>4");
        KIT.same("none", x.said(-1), 0);
        KIT.same("not even one", x.said(0), -1);
        Kit.sentence(x, "number<9");
        KIT.same("all", x.said(-1), 5);
        KIT.same("the last", x.said(4), 4);
        KIT.same("no more", x.said(5), -1);
        StringBuilder ten = new StringBuilder();
        for (char c = 'a'; c <= 'j'; c++) {
            ten.append("house ").append(c).append(" outside 5 5;");
        }
        BagsRiver y = Kit.on(ten.toString());
        Kit.sentence(y, "outside");
        KIT.same("ten", y.said(-1), 10);
        KIT.same("the tenth", y.said(9), 9);
        KIT.same("no eleventh", y.said(10), -1);
        Kit.sentence(y, "not outside");
        KIT.same("none", y.said(-1), 0);
    }

    private static void saidWithoutASentence() {
        KIT.quote("NONE: there is no SENTENCE, none such.");
        BagsRiver x = Kit.on(Kit.STREET);
        for (int k : new int[] {-2, -1, 0, 1, LEAST, MOST}) {
            KIT.same("said(" + k + ")", x.said(k), -1);
        }
        Kit.sentence(x, "safe");
        Kit.street(x, Kit.STREET);
        KIT.same("a new STREET has none", x.said(-1), -1);
        BagsRiver none = new BagsRiver();
        Kit.sentence(none, "safe");
        KIT.same("no HOUSES", none.said(-1), 0);
        KIT.same("none such", none.said(0), -1);
    }

    private static void safeInThisHour() {
        KIT.quote("'safe' (it is not flooded, and would not be in this HOUR, as all is)");
        BagsRiver x = Kit.on("wall w 1;house a outside 9 3;house b outside 9 4;house c w 9 0;house d w 9 9;drain e w 4 1;"
            + "gauge 0 4;gauge 1 5;people 9;rate 5;");
        Kit.sentence(x, "safe");
        KIT.same("at the FLOOR, and behind a WALL that is low", Kit.saidBits(x), 2 + 8);
        x.post(4, 2, 0);
        KIT.same("as all is: bags of this HOUR are not there yet", Kit.saidBits(x), 2 + 8);
        x.image(0);
        x.hours(1);
        KIT.same("what is flooded is not", Kit.saidBits(x), 8);
        KIT.same("flooded by the DRAIN", x.house(2, 4), 0);
        BagsRiver y = Kit.on("wall w 1;house c w 9 0;drain e w 4 1;gauge 3 4;gauge 4 5;people 9;rate 5;sand 11;");
        Kit.sentence(y, "safe");
        y.post(4, 2, 0);
        y.hours(1);
        y.post(2, 1, 10);
        KIT.same("no RIVER", y.said(-1), 1);
        y.hours(1);
        KIT.same("STOPPED and ten bags", y.drain(0, 4) * 100 + y.wall(0, 1), 110);
        y.hours(1);
        KIT.same("as high as the RIVER", y.now(1) * 10 + y.said(-1), 41);
        y.hours(1);
        KIT.same("it held, now the RIVER is higher", y.now(1) * 10 + y.said(-1), 50);
        KIT.same("not flooded yet", y.now(6), 0);
        BagsRiver over = Kit.on("house a outside 9 3;house b outside 9 4;gauge 47 4;");
        over.hours(24);
        over.hours(24);
        Kit.sentence(over, "safe");
        KIT.same("all HOURS are over", Kit.saidBits(over), 2);
    }

    private static void flooded() {
        KIT.quote("'flooded' | 'upped' (its things are upstairs) | 'outside'");
        BagsRiver x = Kit.on("wall w 1;house a outside 9 3;house b w 9 3;house c outside 9 4;gauge 1 4;gauge 2 0;");
        Kit.sentence(x, "flooded");
        KIT.same("ahead of the RIVER", Kit.saidBits(x), 0);
        x.hours(1);
        KIT.same("the RIVER is there, its HOUR has not gone", Kit.saidBits(x), 0);
        x.hours(1);
        KIT.same("those below it", Kit.saidBits(x), 1 + 2);
        x.hours(1);
        KIT.same("for good", Kit.saidBits(x), 1 + 2);
        Kit.sentence(x, "outside");
        KIT.same("outside", Kit.saidBits(x), 1 + 4);
        Kit.sentence(x, "not outside");
        KIT.same("behind a WALL", Kit.saidBits(x), 2);
        x.quit(0);
        KIT.same("behind one that was QUIT", Kit.saidBits(x), 2);
    }

    private static void upped() {
        KIT.quote("'upped' (its things are upstairs)");
        BagsRiver x = Kit.on(Kit.STREET);
        Kit.sentence(x, "upped");
        KIT.same("none", Kit.saidBits(x), 0);
        x.up(2);
        KIT.same("one", Kit.saidBits(x), 4);
        x.hours(5);
        KIT.same("flooded and UP", Kit.saidBits(x), 4);
        Kit.sentence(x, "flooded and upped");
        KIT.same("both", Kit.saidBits(x), 4);
        x.undo();
        x.undo();
        KIT.same("undone", Kit.saidBits(x), 0);
    }

    private static void imagePlaces() {
        KIT.quote("STREET, all that is so and the SENTENCE are kept in place k (0, 1): true; false: no such one.");
        BagsRiver x = Kit.on(Kit.STREET);
        KIT.yes("image(0)", x.image(0));
        KIT.yes("image(1)", x.image(1));
        for (int bad : new int[] {-1, 2, 3, LEAST, MOST}) {
            KIT.leavesAll("image(" + bad + ")", y -> {
                Kit.street(y, Kit.STREET);
                y.image(0);
                lived(y);
            }, y -> KIT.no("image(" + bad + ")", y.image(bad)));
        }
    }

    private static void imageKeepsAll() {
        KIT.quote("STREET, all that is so and the SENTENCE are kept in place k (0, 1)");
        BagsRiver x = Kit.on(Kit.STREET);
        x.image(0);
        lived(x);
        x.post(8, 3, 10);
        x.drawn(4, 0);
        x.quit(1);
        int[] then = Kit.everything(x);
        x.image(1);
        Kit.street(x, "house one outside 3 3;");
        KIT.yes("restore(1)", x.restore(1));
        KIT.all("as it was", Kit.everything(x), then);
        KIT.same("names", Kit.book(x, "quit left;post 1 1 right;post 1 1 sink;up shop;", 0), 3);
        KIT.same("the shop is flooded there", x.told(0), 21);
        KIT.yes("restore(0)", x.restore(0));
        KIT.same("as new", x.now(0) + x.now(4) + x.now(7) + x.now(9), 0);
        KIT.same("no SENTENCE", x.said(-1), -1);
    }

    private static void imageKeepsTheSentence() {
        KIT.quote("STREET, all that is so and the SENTENCE are kept in place k (0, 1)");
        BagsRiver x = Kit.on(Kit.STREET);
        Kit.sentence(x, "not worth<30 and (number=0 or behind right)");
        x.image(0);
        Kit.sentence(x, "floor>5 or floor=5");
        x.image(1);
        Kit.sentence(x, "upped and upped or upped and not (upped or upped)");
        x.restore(0);
        KIT.same("the first", Kit.saidBits(x), 1 + 4);
        x.restore(1);
        KIT.same("the second", Kit.saidBits(x), 1 + 2 + 8 + 16);
        Kit.sentence(x, "safe");
        Kit.sentence(x, "?");
        x.restore(0);
        KIT.same("the first again", Kit.saidBits(x), 1 + 4);
    }

    private static void imageKeepsTheStreet() {
        KIT.quote("STREET, all that is so and the SENTENCE are kept in place k (0, 1)");
        String one = "wall a 1;wall b 2;house c a 5 1;house d b 6 2;house e outside 7 3;drain f b 8 4;drain g a 9 5;crest 7 1;crest 9 2;"
            + "gauge 0 1;gauge 3 2;people 7;sand 8;rate 9;";
        String other = "wall z 3;wall y 4;house x outside 8 5;house w z 9 6;house v y 4 7;drain u z 7 6;drain t y 6 7;crest 8 4;crest 11 3;"
            + "gauge 0 4;gauge 3 5;people 8;sand 9;rate 7;";
        BagsRiver x = Kit.on(one);
        int[] then = Kit.everything(x);
        x.image(0);
        Kit.street(x, other);
        x.image(1);
        x.restore(0);
        KIT.all("as it was", Kit.everything(x), then);
        KIT.same("its NAMES", Kit.book(x, "post 1 1 f;post 1 1 g;quit a;quit b;up c;up d;up e;", 0), -1);
        x.hours(3);
        KIT.same("its gauge", x.now(1), 2);
        x.restore(1);
        KIT.all("the other", Kit.everything(x), Kit.everything(Kit.on(other)));
        KIT.same("its NAMES", Kit.book(x, "post 1 1 u;post 1 1 t;quit z;quit y;up x;up w;up v;", 0), -1);
        x.hours(3);
        KIT.same("its gauge", x.now(1), 5);
    }

    private static void imageOverAnother() {
        KIT.quote("are kept in place k (0, 1)");
        BagsRiver x = Kit.on(Kit.STREET);
        for (int i = 0; i < 10; i++) {
            x.hours(1);
            KIT.yes("image", x.image(i % 2));
        }
        x.restore(0);
        KIT.same("the latest in 0", x.now(0), 9);
        x.restore(1);
        KIT.same("the latest in 1", x.now(0), 10);
        x.hours(5);
        x.restore(1);
        KIT.same("as often as one likes", x.now(0), 10);
        x.image(0);
        x.restore(0);
        KIT.same("an image of what was restored", x.now(0), 10);
    }

    private static void imageLeavesAll() {
        KIT.quote("STREET, all that is so and the SENTENCE are kept in place k (0, 1): true");
        BagsRiver x = Kit.on(Kit.STREET);
        lived(x);
        int[] before = Kit.everything(x);
        Kit.text(x, "abc");
        KIT.yes("image(0)", x.image(0));
        KIT.same("the tape stays", x.count(6), 3);
        x.end(0);
        KIT.all("all stays", Kit.everything(x), before);
        KIT.same("what can be undone stays", x.undo(), 2);
    }

    private static void restoreWhatIsKept() {
        KIT.quote("They are as kept in place k");
        BagsRiver x = new BagsRiver();
        x.image(0);
        Kit.street(x, Kit.STREET);
        lived(x);
        x.image(1);
        KIT.yes("an empty STREET", x.restore(0));
        KIT.all("counts", new int[] {x.count(0), x.count(1), x.count(2), x.count(3), x.count(4), x.count(5), x.now(2)},
            0, 0, 0, 0, 10, 11, 900);
        KIT.yes("the other", x.restore(1));
        KIT.all("counts", new int[] {x.count(0), x.count(1), x.count(2), x.count(3), x.count(4), x.count(5), x.now(2)},
            2, 5, 1, 3, 12, 5, 300 - 20 - 20 - 16);
        KIT.same("lived on", x.hours(2), 2);
        KIT.same("bags", x.wall(0, 1), 20 + 20 + 16 + 12 + 12);
        x.restore(1);
        KIT.same("the image has not lived on", x.now(0) * 100 + x.wall(0, 1), 356);
    }

    private static void restoreNothing() {
        KIT.quote("true; false: no such one, or nothing is kept there.");
        for (int bad : new int[] {-1, 0, 2, 3, LEAST, MOST}) {
            KIT.leavesAll("restore(" + bad + ")", x -> {
                Kit.street(x, Kit.STREET);
                x.image(1);
                lived(x);
                Kit.text(x, "abc");
            }, x -> KIT.no("restore(" + bad + ")", x.restore(bad)));
        }
        BagsRiver x = new BagsRiver();
        KIT.no("nothing in 0", x.restore(0));
        KIT.no("nothing in 1", x.restore(1));
        x.image(0);
        KIT.yes("now in 0", x.restore(0));
        KIT.no("nothing in 1", x.restore(1));
    }

    private static void restoreLeavesTapeAndTold() {
        KIT.quote("(the tape, and what other calls told last, stays; nothing can be undone)");
        BagsRiver x = Kit.on("wall a 1;wall b 1;");
        x.image(0);
        Kit.street(x, Kit.STREET);
        x.plan(165, 0);
        x.crew(1);
        x.rests(0, 39);
        x.carpets(2);
        Kit.bytes(x, 3, 2);
        x.built();
        Kit.book(x, "hour 3;hour 2;", 0);
        Kit.sentence(x, "behind nobody");
        Kit.text(x, "sand 5;");
        KIT.yes("restore(0)", x.restore(0));
        KIT.same("no HOUSES", x.count(1), 0);
        KIT.all("told", new int[] {x.planAt(0), x.planAt(1), x.crewed(0), x.crewed(1), x.walling(), x.carried(), x.most(), x.told(0),
            x.told(1), x.told(2), x.told(3), x.fault()}, 10, 10, 8, 4, 0, 5, 20, 0, 2, 5, 60, 3);
        KIT.same("the tape stays", x.count(6), 7);
        KIT.same("it is read", x.street(), 1);
        KIT.same("sand", x.now(2), 5);
    }

    private static void restoreCannotBeUndone() {
        KIT.quote("(the tape, and what other calls told last, stays; nothing can be undone)");
        BagsRiver x = Kit.on(Kit.STREET);
        x.hours(1);
        x.image(0);
        x.hours(2);
        x.hours(3);
        KIT.yes("restore(0)", x.restore(0));
        KIT.same("nothing", x.undo(), -1);
        KIT.same("HOUR", x.now(0), 1);
        x.hours(4);
        x.hours(5);
        KIT.same("what is done since", x.undo(), 1);
        KIT.same("HOUR", x.now(0), 5);
        KIT.same("what is done since", x.undo(), 0);
        KIT.same("nothing more", x.undo(), -1);
        KIT.same("HOUR", x.now(0), 1);
    }

    private static void countWhat() {
        KIT.quote("0 WALLS, 1 HOUSES, 2 DRAINS, 3 crests, 4 people, 5 'rate', 6 bytes of the tape. NONE for another what.");
        BagsRiver x = Kit.on(Kit.STREET);
        int[] due = {2, 5, 1, 3, 12, 5, 0};
        for (int what = 0; what < 7; what++) {
            KIT.same("count(" + what + ")", x.count(what), due[what]);
        }
        for (int bad : new int[] {-1, 7, LEAST, MOST}) {
            KIT.same("count(" + bad + ")", x.count(bad), -1);
        }
        for (int bytes = 1; bytes < 60; bytes += 7) {
            x.end(0);
            Kit.text(x, Kit.repeat("a", bytes));
            KIT.same("bytes", x.count(6), bytes);
        }
    }
}
