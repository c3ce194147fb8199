/** For each promise of the document: ordinary inputs, the edges that it names, and wrong inputs, by hand. */
public final class PromisesTest {
    private static final Kit KIT = new Kit();
    private static final int THROWS = Kit.THROWS;
    private static final int LEAST = Integer.MIN_VALUE;
    private static final int MOST = Integer.MAX_VALUE;

    public static void main(String[] args) {
        newObject();
        feedAndEnd();
        streetAndFault();
        streetBehindAnother();
        walls();
        houses();
        drains();
        now();
        posting();
        quitting();
        carryingUp();
        hours();
        drainHours();
        undoing();
        bagsOfWalls();
        plans();
        sure();
        crews();
        games();
        due();
        leaks();
        whenAndLast();
        carpets();
        built();
        drawn();
        books();
        sentences();
        images();
        counts();
        KIT.finish();
    }

    private static int[] nows(BagsRiver x) {
        int[] answers = new int[10];
        for (int i = 0; i < 10; i++) {
            answers[i] = x.now(i);
        }
        return answers;
    }

    private static void newObject() {
        KIT.part("1 a new object");
        BagsRiver x = new BagsRiver();
        for (int i = 0; i < 4; i++) {
            KIT.same("count(" + i + ")", x.count(i), 0);
        }
        KIT.same("people", x.count(4), 10);
        KIT.same("rate", x.count(5), 11);
        KIT.same("tape", x.count(6), 0);
        KIT.all("now", nows(x), 0, 0, 900, 0, 0, 11, 0, 0, 0, 0);
        KIT.same("fault", x.fault(), 0);
        KIT.same("planAt", x.planAt(0), -1);
        KIT.same("crewed", x.crewed(0), -1);
        KIT.same("walling", x.walling(), -1);
        KIT.same("carried", x.carried(), -1);
        KIT.same("most", x.most(), -1);
        KIT.same("told", x.told(0), -1);
        KIT.same("said", x.said(-1), -1);
        KIT.same("said", x.said(0), -1);
        KIT.same("undo", x.undo(), -1);
        KIT.no("restore", x.restore(0));
        KIT.no("restore", x.restore(1));
        KIT.same("when", x.when(0), -1);
        KIT.same("last", x.last(), 0);
        KIT.same("posted", x.posted(0) + x.posted(1) + x.posted(2), 0);
        KIT.same("post to no WALL", x.post(0, 0, 0), -1);
        KIT.same("an empty text", x.street(), 0);
    }

    private static void feedAndEnd() {
        KIT.part("2 feed, 3 end");
        BagsRiver x = new BagsRiver();
        for (int i = 1; i <= 47; i++) {
            KIT.same("feed", x.feed(i, i, i, i, i), 20 * i);
        }
        KIT.same("one more", x.feed(1, 2, 3, 4, 5), -1);
        KIT.same("tape", x.count(6), 940);
        KIT.no("end(941)", x.end(941));
        KIT.no("end(-1)", x.end(-1));
        KIT.no("end(least)", x.end(LEAST));
        KIT.no("end(most)", x.end(MOST));
        KIT.same("tape", x.count(6), 940);
        KIT.yes("end(940)", x.end(940));
        KIT.yes("end(921)", x.end(921));
        KIT.same("no room", x.feed(1, 2, 3, 4, 5), -1);
        KIT.same("tape", x.count(6), 921);
        KIT.yes("end(920)", x.end(920));
        KIT.same("room", x.feed(1, 2, 3, 4, 5), 940);
        KIT.yes("end(0)", x.end(0));
        KIT.no("end(1)", x.end(1));
        KIT.yes("end(0) again", x.end(0));
        KIT.same("w a l l / _ w _ 1 / ;", x.feed(0x77616c6c, 0x20772031, 0x3b20200a, 0x20202020, 0x0a0a2020), 20);
        KIT.same("street", x.street(), 1);
        KIT.same("WIDE", x.wall(0, 0), 1);
        x.feed(0x77616c6c, 0x20772038, 0x3bffffff, -1, -1);
        KIT.yes("end(9)", x.end(9));
        x.feed(0x77616c6c, 0x20762039, 0x3bffffff, -1, -1);
        KIT.yes("end(18)", x.end(18));
        KIT.same("street", x.street(), 2);
        KIT.same("WIDE", x.wall(0, 0), 8);
        KIT.same("WIDE", x.wall(1, 0), 9);
    }

    private static void streetAndFault() {
        KIT.part("4 street, 5 fault");
        BagsRiver x = Kit.on(Kit.STREET);
        KIT.same("LINES", Kit.street(x, Kit.STREET), 17);
        x.post(6, 6, 0);
        x.hours(3);
        x.up(0);
        Kit.sentence(x, "safe");
        KIT.same("a FAULT", Kit.street(x, "wall left 1"), -12);
        KIT.same("fault", x.fault(), 1);
        KIT.same("the tape", x.count(6), 0);
        KIT.same("the STREET stays", x.count(1), 5);
        KIT.same("the HOUR stays", x.now(0), 3);
        KIT.same("the SENTENCE stays", x.said(-1) >= 0 ? 1 : 0, 1);
        KIT.same("what can be undone stays", x.undo(), 2);
        KIT.same("book(2) leaves the FAULT", x.book(2), -1000);
        KIT.same("fault", x.fault(), 1);
        KIT.same("a BOOK", Kit.book(x, "hour 1;", 0), -1);
        KIT.same("fault", x.fault(), 0);
        KIT.same("a SENTENCE", Kit.sentence(x, "behind nobody"), -8);
        KIT.same("fault", x.fault(), 3);
        x.book(-1);
        KIT.same("fault", x.fault(), 3);
        x.carpets(3);
        x.crew(2);
        x.plan(50, 0);
        x.rests(0, 39);
        KIT.same("a new STREET", Kit.street(x, "wall w 2;crest 3 1;people 7;sand 8;rate 9;gauge 0 5;"), 6);
        KIT.same("fault", x.fault(), 0);
        KIT.all("now", nows(x), 0, 5, 8, 0, 0, 9, 0, 0, 0, 0);
        KIT.same("posted", x.posted(0) + x.posted(1) + x.posted(2), 0);
        KIT.same("undo", x.undo(), -1);
        KIT.same("said", x.said(-1), -1);
        KIT.same("carried stays", x.carried(), 7);
        KIT.same("crewed stays", x.crewed(0), 8);
        KIT.same("planAt stays", x.planAt(0), 8);
        KIT.same("walling stays", x.walling(), 0);
        KIT.same("told stays", x.told(1), 1);
        KIT.same("an empty STREET", x.street(), 0);
        KIT.same("people", x.count(4), 10);
        KIT.same("rate", x.count(5), 11);
        KIT.same("sand", x.now(2), 900);
        KIT.same("walls", x.count(0), 0);
        KIT.same("crests", x.count(3), 0);
        KIT.same("RIVER", x.now(1), 0);
    }

    private static void streetBehindAnother() {
        KIT.part("4 street, behind another");
        BagsRiver x = Kit.on("wall a 3;wall b 4;house p a 9 1;house q b 8 1;house r outside 7 1;drain d a 5 5;drain e b 5 5;"
            + "crest 7 1;crest 9 2;gauge 0 1;gauge 2 9;people 9;sand 99;rate 9;");
        x.up(1);
        x.post(4, 2, 0);
        x.hours(1);
        x.post(4, 2, 10);
        x.hours(1);
        x.post(4, 1, 11);
        x.hours(1);
        x.post(4, 0, 11);
        x.drawn(24, 6);
        x.quit(1);
        Kit.sentence(x, "outside");
        KIT.yes("bags lie there", x.wall(0, 1) > 0 && x.drain(0, 3) > 0 && x.drain(1, 3) > 0);
        KIT.yes("it has RAINED", x.now(7) > 0);
        KIT.yes("some are ready", x.now(3) > 0);
        String small = "wall z 2;house zz z 5 3;house za outside 5 7;";
        KIT.same("a small one", Kit.street(x, small), 3);
        KIT.all("as new", Kit.everything(x), Kit.everything(Kit.on(small)));
        x.hours(2);
        KIT.all("as new", Kit.everything(x), Kit.everything(lived(small)));
        KIT.same("the same again", Kit.street(x, Kit.STREET), 17);
        KIT.all("as new", Kit.everything(x), Kit.everything(Kit.on(Kit.STREET)));
        plan(x, 78, 145, 2, 12, 0);
        KIT.same("another", Kit.street(x, "wall z 2;house zz z 5 3;crest 4 1;"), 3);
        plan(x, 78, 5, 1, 4);
    }

    private static BagsRiver lived(String street) {
        BagsRiver x = Kit.on(street);
        x.hours(2);
        return x;
    }

    private static void walls() {
        KIT.part("6 wall");
        BagsRiver x = Kit.on("wall a 3;wall b 20;house p b 5 5;house q a 5 5;house r outside 5 5;house s b 5 5;"
            + "drain d a 1 1;drain e b 1 1;drain f a 1 1;rate 1;people 2;");
        KIT.same("WIDE", x.wall(0, 0), 3);
        KIT.same("WIDE", x.wall(1, 0), 20);
        KIT.same("HOUSES", x.wall(0, 4), 2);
        KIT.same("HOUSES", x.wall(1, 4), 9);
        KIT.same("DRAINS", x.wall(0, 5), 5);
        KIT.same("DRAINS", x.wall(1, 5), 2);
        for (int what : new int[] {-1, 6, LEAST, MOST}) {
            KIT.same("wall(0, " + what + ")", x.wall(0, what), -1);
        }
        for (int w : new int[] {-1, 2, 5, 6, LEAST, MOST}) {
            KIT.same("wall(" + w + ", 0)", x.wall(w, 0), -1);
        }
        BagsRiver y = Kit.on("wall a 3;sand 999;people 60;rate 1;");
        y.post(40, 20, 0);
        int[] highs = {0, 3, 3, 4, 5, 5, 5, 6, 6, 6};
        for (int hour = 1; hour <= 9; hour++) {
            y.hours(1);
            KIT.same("bags in HOUR " + hour, y.wall(0, 1), 20 * hour);
            KIT.same("height in HOUR " + hour, y.wall(0, 2), highOf(3, 20 * hour));
        }
        KIT.same("highs by hand", highOf(3, 20), highs[1]);
        KIT.same("not QUIT", y.wall(0, 3), 0);
        y.quit(0);
        KIT.same("QUIT", y.wall(0, 3), 1);
        KIT.same("height", y.wall(0, 2), 0);
        KIT.same("bags", y.wall(0, 1), 0);
        BagsRiver z = Kit.on("wall a 1;sand 3;people 3;rate 1;");
        z.post(2, 1, 0);
        int[] exact = {1, 1, 2};
        for (int i = 0; i < 3; i++) {
            z.hours(1);
            KIT.same("height of " + (i + 1) + " bags", z.wall(0, 2), exact[i]);
        }
    }

    private static int highOf(int wide, int bags) {
        int high = 0;
        int used = 0;
        while (used + wide * (high + 1) <= bags) {
            high++;
            used += wide * high;
        }
        return high;
    }

    private static void houses() {
        KIT.part("7 house");
        BagsRiver x = Kit.on(Kit.STREET);
        int[][] due = {{0, 40, 5, 0, -1, 0}, {0, 30, 9, 0, -1, 0}, {1, 50, 4, 0, -1, 0}, {-1, 20, 6, 0, -1, 0},
            {-1, 10, 8, 0, -1, 0}};
        for (int h = 0; h < 5; h++) {
            for (int what = 0; what < 6; what++) {
                KIT.same("house(" + h + ", " + what + ")", x.house(h, what), due[h][what]);
            }
        }
        for (int bad : new int[] {-1, 5, 6, 10, LEAST, MOST}) {
            KIT.same("house " + bad, Kit.caught(() -> x.house(bad, 0)), THROWS);
        }
        for (int bad : new int[] {-1, 6, LEAST, MOST}) {
            KIT.same("house what " + bad, Kit.caught(() -> x.house(0, bad)), THROWS);
        }
        KIT.same("both wrong", Kit.caught(() -> x.house(9, 9)), THROWS);
        x.up(1);
        KIT.same("UP", x.house(1, 5), 1);
        x.hours(5);
        KIT.same("flooded", x.house(2, 3), 1);
        KIT.same("when", x.house(2, 4), 4);
        KIT.same("not flooded", x.house(3, 3), 0);
        KIT.same("no HOUR", x.house(3, 4), -1);
        x.hours(5);
        KIT.same("flooded", x.house(3, 3), 1);
        KIT.same("when", x.house(3, 4), 6);
        KIT.same("when, still", x.house(2, 4), 4);
        KIT.same("its FLOOR is the RIVER", x.house(1, 3), 0);
    }

    private static void drains() {
        KIT.part("8 drain");
        BagsRiver x = Kit.on("wall a 1;wall b 1;drain d b 9 40;drain e a 0 3;people 4;rate 1;");
        int[][] due = {{1, 9, 40, 0, 0}, {0, 0, 3, 0, 0}};
        for (int d = 0; d < 2; d++) {
            for (int what = 0; what < 5; what++) {
                KIT.same("drain(" + d + ", " + what + ")", x.drain(d, what), due[d][what]);
            }
        }
        for (int bad : new int[] {-1, 2, 6, LEAST, MOST}) {
            KIT.same("drain " + bad, x.drain(bad, 0), -1);
        }
        for (int bad : new int[] {-1, 5, LEAST, MOST}) {
            KIT.same("drain what " + bad, x.drain(0, bad), -1);
        }
        x.post(2, 1, 11);
        int[] stopped = {0, 0, 1, 1};
        for (int i = 0; i < 4; i++) {
            x.hours(1);
            KIT.same("bags", x.drain(1, 3), i + 1);
            KIT.same("STOPPED", x.drain(1, 4), stopped[i]);
        }
        KIT.same("the other", x.drain(0, 3), 0);
        KIT.same("carried in all", x.now(9), 4);
    }

    private static void now() {
        KIT.part("9 now");
        BagsRiver x = Kit.on(Kit.STREET);
        KIT.all("now", nows(x), 0, 3, 300, 0, 0, 5, 0, 0, 150, 0);
        x.post(8, 1, 0);
        x.hours(1);
        KIT.all("behind one", nows(x), 1, 3, 280, 15, 1, 5, 0, 0, 150, 5);
        x.up(3);
        x.hours(4);
        KIT.all("behind five", nows(x), 5, 6, 224, 57, 6, 2, 5, 0, 60, 19);
        for (int bad : new int[] {-1, 10, LEAST, MOST}) {
            KIT.same("now(" + bad + ")", x.now(bad), -1);
        }
        x.hours(2);
        KIT.same("SAVED, half of what is UP", x.now(8), 30 + 10 + 0);
        KIT.same("flooded", x.now(6), 1 | 4 | 8 | 16);
        BagsRiver y = Kit.on("gauge 9 5;gauge 3 8;gauge 20 0;");
        int[] rivers = {0, 0, 0, 8, 8, 8, 8, 8, 8, 5, 5, 5, 5, 5, 5, 5, 5, 5, 5, 5, 0, 0};
        for (int hour = 0; hour < 22; hour++) {
            KIT.same("HOUR", y.now(0), hour);
            KIT.same("RIVER in " + hour, y.now(1), rivers[hour]);
            y.hours(1);
        }
        BagsRiver z = Kit.on("house a outside 9 0;house b outside 7 9;gauge 0 1;");
        z.up(0);
        z.hours(1);
        KIT.same("half, cut", z.now(8), 4 + 7);
    }

    private static void posting() {
        KIT.part("10 posted, 11 post");
        BagsRiver x = Kit.on(Kit.STREET);
        KIT.same("at first", x.posted(0), 0);
        KIT.same("at first", x.posted(1), 0);
        KIT.same("at first", x.posted(2), 0);
        KIT.same("just so at first", x.post(0, 0, 0), 1);
        KIT.same("post", x.post(5, 7, 10), 0);
        KIT.same("fill", x.posted(0), 5);
        KIT.same("carry", x.posted(1), 7);
        KIT.same("where to", x.posted(2), 10);
        KIT.same("just so", x.post(5, 7, 10), 1);
        for (int bad : new int[] {-1, 3, LEAST, MOST}) {
            KIT.same("posted(" + bad + ")", x.posted(bad), -1);
        }
        int[][] wrong = {{6, 7, 0}, {13, 0, 0}, {0, 13, 0}, {-1, 3, 0}, {3, -1, 0}, {1, 1, -1}, {1, 1, 2}, {1, 1, 5},
            {1, 1, 9}, {1, 1, 11}, {MOST, MOST, 0}, {MOST, 1, 0}, {LEAST, LEAST, 0}, {-2, 13, 0}, {1, 1, LEAST},
            {1, 1, MOST}, {1, 1, LEAST + 10}};
        for (int[] w : wrong) {
            KIT.same("post(" + w[0] + ", " + w[1] + ", " + w[2] + ")", x.post(w[0], w[1], w[2]), -1);
        }
        KIT.same("stays", x.posted(0) * 10000 + x.posted(1) * 100 + x.posted(2), 50710);
        KIT.same("only where to", x.post(5, 7, 1), 0);
        KIT.same("only who fill", x.post(4, 7, 1), 0);
        KIT.same("only who carry", x.post(4, 8, 1), 0);
        KIT.same("all of them", x.post(12, 0, 1), 0);
        KIT.same("nobody", x.post(0, 0, 1), 0);
        KIT.same("to a WALL that was QUIT", x.quit(0) + x.post(1, 1, 0), 0);
        BagsRiver y = Kit.on("wall w 1;people 60;");
        KIT.same("sixty", y.post(60, 0, 0), 0);
        KIT.same("sixty and one", y.post(60, 1, 0), -1);
    }

    private static void quitting() {
        KIT.part("12 quit");
        BagsRiver x = Kit.on("wall a 1;wall b 1;house h a 9 3;gauge 3 4;people 12;rate 7;");
        x.post(4, 1, 0);
        x.hours(1);
        KIT.same("bags", x.wall(0, 1), 7);
        KIT.same("ready", x.now(3), 7);
        KIT.same("quit", x.quit(0), 0);
        KIT.same("half are ready", x.now(3), 10);
        KIT.same("it has none", x.wall(0, 1), 0);
        KIT.same("quit again", x.quit(0), 1);
        KIT.same("and no more are ready", x.now(3), 10);
        x.hours(1);
        KIT.same("none are carried", x.wall(0, 1), 0);
        KIT.same("carried so far", x.now(9), 7);
        KIT.same("ready", x.now(3), 24);
        KIT.same("all TIRE all the same", x.now(4), 2);
        KIT.same("quit an empty one", x.quit(1), 0);
        KIT.same("ready", x.now(3), 24);
        for (int bad : new int[] {-1, 2, 5, LEAST, MOST}) {
            KIT.same("quit(" + bad + ")", x.quit(bad), -1);
        }
        x.hours(2);
        KIT.same("flooded behind it", x.house(0, 4), 3);
    }

    private static void carryingUp() {
        KIT.part("13 up");
        BagsRiver x = Kit.on("house a outside 9 1;house b outside 8 9;house c outside 7 1;gauge 0 2;");
        KIT.same("up", x.up(0), 0);
        KIT.same("all TIRE", x.now(4), 1);
        KIT.same("they are", x.up(0), 2);
        KIT.same("nobody TIRES", x.now(4), 1);
        KIT.same("up", x.up(1), 0);
        KIT.same("all TIRE", x.now(4), 2);
        x.hours(1);
        KIT.same("they rest", x.now(4), 0);
        KIT.same("flooded", x.up(2), 1);
        KIT.same("flooded ahead of UP", x.up(0), 1);
        KIT.same("they are", x.up(1), 2);
        for (int bad : new int[] {-1, 3, 10, LEAST, MOST}) {
            KIT.same("up(" + bad + ")", x.up(bad), -1);
        }
        KIT.same("UP stays", x.house(0, 5), 1);
        KIT.same("not UP", x.house(2, 5), 0);
    }

    private static void hours() {
        KIT.part("14 hours");
        BagsRiver x = Kit.on("wall a 1;people 60;sand 20;rate 3;");
        for (int bad : new int[] {0, -1, 25, LEAST, MOST}) {
            KIT.same("hours(" + bad + ")", x.hours(bad), -1);
        }
        x.post(5, 1, 0);
        x.hours(1);
        KIT.all("half of five", nows(x), 1, 0, 14, 3, 1, 3, 0, 0, 0, 3);
        x.hours(1);
        KIT.all("TIRED by 1", nows(x), 2, 0, 8, 6, 2, 2, 0, 0, 0, 6);
        x.hours(1);
        KIT.all("TIRED by 2", nows(x), 3, 0, 4, 8, 3, 2, 0, 0, 0, 8);
        x.hours(1);
        KIT.all("TIRED by 3", nows(x), 4, 0, 0, 10, 4, 1, 0, 0, 0, 10);
        x.hours(1);
        KIT.all("no sand", nows(x), 5, 0, 0, 9, 5, 1, 0, 0, 0, 11);
        x.hours(4);
        KIT.all("one at least", nows(x), 9, 0, 0, 5, 9, 1, 0, 0, 0, 15);
        x.post(0, 0, 0);
        x.hours(4);
        KIT.all("rest by 2", nows(x), 13, 0, 0, 5, 1, 3, 0, 0, 0, 15);
        x.hours(1);
        KIT.same("not below 0", x.now(4), 0);
        x.post(0, 9, 0);
        x.hours(1);
        KIT.all("as many as are ready", nows(x), 15, 0, 0, 0, 1, 3, 0, 0, 0, 20);
        KIT.same("24", x.hours(24), 24);
        KIT.same("what is left", x.hours(24), 9);
        KIT.same("all are over", x.hours(1), 0);
        KIT.same("HOUR", x.now(0), 48);
        BagsRiver y = Kit.on("people 10;sand 7;rate 5;");
        KIT.same("nobody is posted without a WALL", y.post(4, 0, 0), -1);
        BagsRiver z = Kit.on("wall a 1;sand 7;rate 5;");
        z.post(4, 0, 0);
        z.hours(1);
        KIT.same("as much as there is sand", z.now(3), 7);
        KIT.same("sand", z.now(2), 0);
        KIT.same("who fill TIRE too", z.now(4), 1);
        floods();
    }

    private static void floods() {
        BagsRiver x = Kit.on("wall a 1;wall b 1;wall c 1;house p a 1 2;house q b 1 2;house r c 1 2;house s a 1 3;"
            + "drain d b 3 1;drain e a 4 1;drain f a 3 2;gauge 5 3;gauge 6 4;people 3;rate 2;");
        x.post(2, 1, 0);
        x.hours(3);
        KIT.same("as high as the RIVER that comes", x.wall(0, 2), 2);
        x.hours(1);
        KIT.same("as high as the RIVER that comes", x.wall(0, 2), 3);
        x.post(2, 1, 12);
        x.hours(1);
        KIT.same("a DRAIN has one bag of two", x.drain(2, 3), 1);
        x.hours(1);
        KIT.same("the DRAIN is STOPPED in the HOUR, walls b and c are low", x.now(6), 6);
        KIT.same("RIVER", x.now(1), 4);
        x.hours(1);
        KIT.same("now wall a is low too", x.now(6), 15);
        KIT.same("HOUR of p", x.house(0, 4), 6);
        KIT.same("HOUR of q", x.house(1, 4), 5);
        BagsRiver y = Kit.on("wall a 1;house p a 1 0;drain d a 2 1;drain e a 1 1;gauge 2 1;people 3;rate 9;");
        y.post(2, 1, 0);
        y.hours(1);
        KIT.same("high", y.wall(0, 2), 3);
        y.post(2, 1, 10);
        y.hours(1);
        KIT.same("the DRAIN whose INCH is the RIVER leaks", y.when(0), 2);
        y.post(2, 1, 11);
        KIT.same("it is STOPPED in time", y.when(0), -1);
    }

    private static void drainHours() {
        KIT.part("14 hours, to a DRAIN");
        BagsRiver x = Kit.on("wall a 1;drain d a 2 3;people 9;rate 2;");
        x.quit(0);
        x.post(6, 2, 10);
        x.hours(1);
        KIT.same("the DRAIN of a WALL that was QUIT", x.drain(0, 3), 4);
        KIT.same("ready", x.now(3), 2);
        KIT.same("carried", x.now(9), 4);
        x.hours(1);
        KIT.same("more than it takes", x.drain(0, 3), 8);
    }

    private static void undoing() {
        KIT.part("15 undo");
        BagsRiver x = Kit.on(Kit.STREET);
        KIT.same("none", x.undo(), -1);
        x.post(1, 1, 0);
        x.post(1, 1, 0);
        x.post(99, 1, 0);
        x.quit(1);
        x.quit(1);
        x.up(0);
        x.up(0);
        x.hours(2);
        x.hours(0);
        x.drawn(1, 7);
        x.drawn(0, 7);
        Kit.book(x, "hour 1;up mill;", 1);
        Kit.book(x, "up mill;", 1);
        Kit.book(x, "hour 1;", 0);
        Kit.book(x, "hour 1", 1);
        Kit.book(x, "", 1);
        Kit.sentence(x, "upped");
        KIT.same("HOUR", x.now(0), 4);
        KIT.same("the BOOK", x.undo(), 5);
        KIT.same("HOUR", x.now(0), 3);
        KIT.same("drawn", x.undo(), 4);
        KIT.same("HOUR", x.now(0), 2);
        KIT.same("RAIN", x.now(7), 0);
        KIT.same("hours", x.undo(), 3);
        KIT.same("HOUR", x.now(0), 0);
        KIT.same("sand", x.now(2), 300);
        KIT.same("UP", x.house(0, 5), 1);
        KIT.same("up", x.undo(), 2);
        KIT.same("UP", x.house(0, 5), 0);
        KIT.same("TIRED", x.now(4), 0);
        KIT.same("QUIT", x.wall(1, 3), 1);
        KIT.same("quit", x.undo(), 1);
        KIT.same("QUIT", x.wall(1, 3), 0);
        KIT.same("post", x.undo(), 0);
        KIT.same("posted", x.posted(0), 0);
        KIT.same("none", x.undo(), -1);
        KIT.same("the SENTENCE stays", x.said(-1), 0);
        for (int i = 0; i < 11; i++) {
            x.hours(1);
        }
        for (int i = 7; i >= 0; i--) {
            KIT.same("eight are kept", x.undo(), i);
            KIT.same("HOUR", x.now(0), 3 + i);
        }
        KIT.same("not a ninth", x.undo(), -1);
        KIT.same("HOUR", x.now(0), 3);
        x.hours(1);
        x.hours(1);
        x.undo();
        x.hours(2);
        KIT.same("undo", x.undo(), 1);
        KIT.same("HOUR", x.now(0), 4);
        x.hours(24);
        x.hours(24);
        KIT.same("behind the end", x.hours(1) + x.drawn(1, 1), 0);
        KIT.same("undo", x.undo(), 2);
        KIT.same("HOUR", x.now(0), 28);
        flooding();
    }

    private static void flooding() {
        BagsRiver x = Kit.on(Kit.STREET);
        x.post(8, 4, 0);
        x.hours(3);
        x.post(8, 4, 10);
        x.hours(4);
        KIT.same("flooded", x.now(6), 4 | 8 | 16);
        KIT.same("bags", x.drain(0, 3) > 0 ? 1 : 0, 1);
        x.undo();
        KIT.same("not flooded", x.now(6), 0);
        KIT.same("when", x.house(2, 4), -1);
        KIT.same("no bags", x.drain(0, 3), 0);
        KIT.same("carried", x.now(9), x.wall(0, 1));
    }

    private static void bagsOfWalls() {
        KIT.part("16 takes");
        BagsRiver x = Kit.on("wall a 1;wall b 20;");
        int[] due = {0, 1, 3, 6, 10, 15};
        for (int h = 0; h < due.length; h++) {
            KIT.same("takes(0, " + h + ")", x.takes(0, h), due[h]);
            KIT.same("takes(1, " + h + ")", x.takes(1, h), 20 * due[h]);
        }
        KIT.same("sixty inches", x.takes(0, 60), 1830);
        KIT.same("sixty inches", x.takes(1, 60), 36600);
        KIT.same("QUIT", x.quit(0) + x.takes(0, 2), 3);
        for (int bad : new int[] {-1, 61, LEAST, MOST}) {
            KIT.same("takes(0, " + bad + ")", x.takes(0, bad), -1);
        }
        for (int bad : new int[] {-1, 2, 5, LEAST, MOST}) {
            KIT.same("takes(" + bad + ", 1)", x.takes(bad, 1), -1);
        }
        KIT.part("17 lacks");
        BagsRiver y = Kit.on(Kit.STREET);
        KIT.same("nine inches", y.lacks(0), 45);
        KIT.same("nine inches", y.lacks(1), 90);
        y.post(8, 4, 0);
        y.hours(2);
        KIT.same("forty lie there", y.lacks(0), 5);
        y.hours(1);
        KIT.same("enough", y.lacks(0), 0);
        KIT.same("nine inches", y.lacks(1), 90);
        y.quit(1);
        KIT.same("QUIT", y.lacks(1), -1);
        for (int bad : new int[] {-1, 2, 5, LEAST, MOST}) {
            KIT.same("lacks(" + bad + ")", y.lacks(bad), -1);
        }
        BagsRiver z = Kit.on("wall a 1;gauge 2 9;gauge 5 4;gauge 7 6;gauge 47 2;");
        int[] greatest = {9, 9, 9, 9, 9, 6, 6, 6, 6};
        for (int hour = 0; hour < greatest.length; hour++) {
            KIT.same("lacks in " + hour, z.lacks(0), z.takes(0, greatest[hour]));
            z.hours(1);
        }
        z.hours(24);
        z.hours(14);
        KIT.same("in the last HOUR", z.now(0) * 100 + z.lacks(0), 4703);
        KIT.same("the RIVER falls", Kit.on("wall a 2;gauge 0 5;gauge 1 0;").lacks(0), 30);
        BagsRiver r = Kit.on("wall a 1;gauge 0 3;");
        for (int i = 0; i < 48 && r.now(7) < 2; i++) {
            r.drawn(1, r.now(0));
        }
        KIT.same("RAIN so far", r.lacks(0), 15);
    }

    private static void plan(BagsRiver x, int b, int above, int below, int... heights) {
        KIT.same("plan(" + b + ", 0)", Kit.caught(() -> x.plan(b, 0)), above);
        KIT.same("plan(" + b + ", 1)", Kit.caught(() -> x.plan(b, 1)), below);
        for (int w = 0; w < heights.length; w++) {
            KIT.same("planAt(" + w + ") of " + b, x.planAt(w), heights[w]);
        }
        KIT.same("planAt behind the last", x.planAt(heights.length), -1);
        KIT.same("planAt(-1)", x.planAt(-1), -1);
        KIT.same("planAt(least)", x.planAt(LEAST), -1);
        KIT.same("planAt(most)", x.planAt(MOST), -1);
    }

    private static void plans() {
        KIT.part("18 plan, 19 planAt");
        BagsRiver x = Kit.on(Kit.STREET);
        KIT.same("ahead of any", x.planAt(0), -1);
        KIT.same("no such bags", Kit.caught(() -> x.plan(1000, 0)), THROWS);
        KIT.same("no such bags", Kit.caught(() -> x.plan(-1, 0)), THROWS);
        KIT.same("no such number", Kit.caught(() -> x.plan(5, 2)), THROWS);
        KIT.same("no such number", Kit.caught(() -> x.plan(5, -1)), THROWS);
        KIT.same("still ahead of any", x.planAt(0), -1);
        plan(x, 0, 10, 1, 0, 0);
        plan(x, 35, 10, 1, 0, 0);
        plan(x, 36, 20, 1, 8, 0);
        plan(x, 54, 20, 1, 8, 0);
        plan(x, 55, 55, 1, 10, 0);
        plan(x, 78, 145, 2, 12, 0);
        plan(x, 165, 185, 2, 10, 10);
        KIT.same("no such bags", Kit.caught(() -> x.plan(MOST, 0)), THROWS);
        KIT.same("the latest stays", x.planAt(0), 10);
        plan(x, 999, 245, 2, 12, 12);
        KIT.same("what is so matters not", x.quit(0) + x.hours(24), 24);
        plan(x, 78, 145, 2, 12, 0);
        plan(Kit.on("house h outside 9 4;crest 5 3;crest 4 1;"), 7, 9, 4);
        plan(Kit.on("wall a 1;wall b 1;house h a 9 4;house g b 9 4;crest 5 1;"), 15, 9, 1, 0, 5);
        plan(Kit.on("wall a 1;wall b 1;house h a 9 5;house g b 9 5;crest 5 1;"), 99, 18, 1, 0, 0);
        plan(Kit.on("wall a 2;wall b 1;house h a 9 4;house g b 9 4;crest 5 1;"), 30, 9, 1, 0, 5);
        plan(Kit.on("wall a 1;wall b 2;house h a 9 4;house g b 9 4;crest 5 1;"), 30, 9, 1, 5, 0);
        plan(Kit.on("wall a 1;house h a 9 4;crest 0 1;"), 30, 9, 1, 0);
        plan(Kit.on("wall a 1;house h a 9 59;house g outside 9 60;crest 60 1;"), 999, 9, 1, 0);
        plan(Kit.on("wall a 1;house h a 9 9;crest 44 1;crest 45 3;"), 999, 9, 4, 44);
        plan(Kit.on("wall a 1;house h a 1 0;crest 9 1;"), 44, 0, 1, 0);
        plan(Kit.on("wall a 1;house h a 1 0;drain d a 0 1;crest 9 7;"), 45, 1, 1, 9);
        plan(Kit.on("wall a 1;house h a 60 0;house g a 1 5;crest 9 1;crest 5 1;crest 3 1;"), 15, 122, 3, 5);
        BagsRiver none = Kit.on("wall a 1;house h a 1 0;");
        KIT.same("no crests", Kit.caught(() -> none.plan(5, 0)), THROWS);
        KIT.same("no crests", none.planAt(0), -1);
    }

    private static void sure(BagsRiver x, int h, int l, int above, int below) {
        KIT.same("sure(" + h + ", " + l + ", 0)", Kit.caught(() -> x.sure(h, l, 0)), above);
        KIT.same("sure(" + h + ", " + l + ", 1)", Kit.caught(() -> x.sure(h, l, 1)), below);
    }

    private static void sure() {
        KIT.part("20 sure");
        BagsRiver x = Kit.on("crest 20 3;crest 10 2;crest 30 4;crest 40 1;");
        sure(x, 60, 0, 1, 1);
        sure(x, 9, 0, 0, 1);
        sure(x, 10, 0, 1, 5);
        sure(x, 19, 0, 1, 5);
        sure(x, 20, 0, 1, 2);
        sure(x, 20, 11, 3, 8);
        sure(x, 20, 20, 3, 8);
        sure(x, 30, 20, 7, 8);
        sure(x, 30, 30, 4, 5);
        sure(x, 30, 40, 0, 1);
        sure(x, 10, 20, 0, 1);
        sure(x, 40, 40, 1, 1);
        sure(x, 0, 0, 0, 1);
        sure(x, 40, 41, THROWS, THROWS);
        sure(x, 60, 60, THROWS, THROWS);
        sure(x, 61, 0, THROWS, THROWS);
        sure(x, -1, 0, THROWS, THROWS);
        sure(x, 0, -1, THROWS, THROWS);
        sure(x, 5, 61, THROWS, THROWS);
        sure(x, MOST, LEAST, THROWS, THROWS);
        KIT.same("what 2", Kit.caught(() -> x.sure(20, 0, 2)), THROWS);
        KIT.same("what -1", Kit.caught(() -> x.sure(20, 0, -1)), THROWS);
        sure(new BagsRiver(), 0, 0, THROWS, THROWS);
        sure(Kit.on("crest 60 9;crest 0 3;"), 0, 0, 1, 4);
        sure(Kit.on("crest 60 9;crest 0 3;"), 60, 60, 1, 1);
    }

    private static void crew(BagsRiver x, int n, int bags, int f, int c) {
        KIT.same("crew(" + n + ")", x.crew(n), bags);
        KIT.same("F", x.crewed(0), f);
        KIT.same("C", x.crewed(1), c);
    }

    private static void crews() {
        KIT.part("21 crew, 22 crewed");
        BagsRiver x = Kit.on(Kit.STREET);
        KIT.same("ahead of any", x.crewed(0), -1);
        KIT.same("ahead of any", x.crewed(1), -1);
        for (int bad : new int[] {0, 7, -1, LEAST, MOST}) {
            KIT.same("crew(" + bad + ")", x.crew(bad), -1);
        }
        KIT.same("still ahead of any", x.crewed(0), -1);
        crew(x, 1, 20, 8, 4);
        crew(x, 2, 40, 8, 4);
        crew(x, 6, 20 + 20 + 16 + 16 + 12 + 12, 8, 4);
        KIT.same("no such one", x.crew(7), -1);
        KIT.same("the latest stays", x.crewed(0), 8);
        for (int bad : new int[] {-1, 2, LEAST, MOST}) {
            KIT.same("crewed(" + bad + ")", x.crewed(bad), -1);
        }
        x.post(12, 0, 10);
        x.hours(1);
        crew(x, 1, 40, 4, 8);
        KIT.same("who is POSTED stays", x.posted(0), 12);
        KIT.same("the HOUR stays", x.now(0), 1);
        KIT.same("TIRED stays", x.now(4), 1);
        x.post(12, 0, 1);
        x.quit(1);
        crew(x, 3, 0, 0, 0);
        x.post(12, 0, 0);
        crew(x, 1, 40, 4, 8);
    }

    private static void games() {
        KIT.part("23 rests, 24 walling");
        BagsRiver x = Kit.on(Kit.STREET);
        KIT.same("ahead of any", x.walling(), -1);
        KIT.same("no such WALL", x.rests(2, 5), -1);
        KIT.same("no such bags", x.rests(0, 1000), -1);
        KIT.same("still ahead of any", x.walling(), -1);
        game(x, 0, 9, 1, 0);
        game(x, 0, 39, 2, 0);
        game(x, 0, 38, 1, 0);
        game(x, 0, 5, 4, 0);
        game(x, 0, 78, 4, 0);
        game(x, 0, 999, 4, 0);
        game(x, 1, 0, 2, 0);
        for (int bad : new int[] {-1, 2, 5, LEAST, MOST}) {
            KIT.same("rests(" + bad + ", 1)", x.rests(bad, 1), -1);
        }
        for (int bad : new int[] {-1, 1000, LEAST, MOST}) {
            KIT.same("rests(0, " + bad + ")", x.rests(0, bad), -1);
        }
        String three = "wall a 1;house p outside 1 1;house q a 5 1;house r a 5 1;house s a 5 1;";
        game(Kit.on(three + "crest 4 1;"), 0, 5, 1 + 3 + 1, 2 | 4);
        game(Kit.on(three + "crest 4 1;crest 3 9;"), 0, 5, 5, 6);
        game(Kit.on(three + "crest 5 1;"), 0, 5, 1 + 1 + 3, 14);
        game(Kit.on(three + "crest 5 1;"), 0, 8, 1 + 3 + 1, 6);
        game(Kit.on(three + "crest 5 1;"), 0, 9, 1 + 3 + 1, 0);
        game(Kit.on(three + "crest 5 1;"), 0, 4, 8, 0);
        game(Kit.on(three), 0, 0, 8, 0);
        game(Kit.on("wall a 1;house p outside 1 1;crest 5 1;"), 0, 5, 1, 0);
    }

    private static void game(BagsRiver x, int w, int b, int rests, int walling) {
        KIT.same("rests(" + w + ", " + b + ")", x.rests(w, b), rests);
        KIT.same("walling() of " + b, x.walling(), walling);
    }

    private static void due() {
        KIT.part("25 due");
        BagsRiver x = Kit.on(Kit.STREET);
        KIT.same("the greatest rest", x.due(3, 10), 7);
        KIT.same("the other", x.due(4, 10), 3);
        KIT.same("nothing", x.due(3, 0), 0);
        KIT.same("one", x.due(3, 1), 1);
        KIT.same("one", x.due(4, 1), 0);
        KIT.same("behind a WALL", x.due(0, 10), -1);
        for (int bad : new int[] {-1, 5, 10, LEAST, MOST}) {
            KIT.same("due(" + bad + ", 1)", x.due(bad, 1), -1);
        }
        for (int bad : new int[] {-1, 1000, LEAST, MOST}) {
            KIT.same("due(3, " + bad + ")", x.due(3, bad), -1);
        }
        KIT.same("all", x.due(3, 999) + x.due(4, 999), 999);
        BagsRiver y = Kit.on("house a outside 5 1;house b outside 5 1;house c outside 5 1;");
        int[][] shares = {{0, 0, 0}, {1, 0, 0}, {1, 1, 0}, {1, 1, 1}, {2, 1, 1}, {2, 2, 1}};
        for (int w = 0; w < shares.length; w++) {
            for (int h = 0; h < 3; h++) {
                KIT.same("due(" + h + ", " + w + ")", y.due(h, w), shares[w][h]);
            }
        }
        BagsRiver z = Kit.on("wall w 1;house a outside 1 0;house b w 99 0;house c outside 2 0;house d outside 3 0;gauge 0 9;");
        z.hours(1);
        KIT.same("flooded ones too", z.due(0, 10), 2);
        KIT.same("3 and 2 of 6", z.due(2, 10), 3);
        KIT.same("5", z.due(3, 10), 5);
        KIT.same("alone", Kit.on("house a outside 7 1;").due(0, 999), 999);
    }

    private static void leaks() {
        KIT.part("26 leaks");
        BagsRiver x = Kit.on("wall a 1;wall b 1;drain d a 5 2;drain e b 1 1;drain f a 7 1;drain g a 0 1;people 3;rate 1;");
        int[] due = {8, 8, 8, 8, 8, 9, 9, 13, 13};
        for (int h = 0; h < due.length; h++) {
            KIT.same("leaks(0, " + h + ")", x.leaks(0, h), due[h]);
        }
        KIT.same("leaks(1, 0)", x.leaks(1, 0), 0);
        KIT.same("leaks(1, 60)", x.leaks(1, 60), 2);
        x.post(2, 1, 10);
        x.hours(1);
        KIT.same("one bag of two", x.leaks(0, 60), 13);
        x.hours(1);
        KIT.same("STOPPED", x.leaks(0, 60), 12);
        x.quit(0);
        KIT.same("a WALL that was QUIT", x.leaks(0, 60), 12);
        for (int bad : new int[] {-1, 61, LEAST, MOST}) {
            KIT.same("leaks(0, " + bad + ")", x.leaks(0, bad), -1);
        }
        for (int bad : new int[] {-1, 2, LEAST, MOST}) {
            KIT.same("leaks(" + bad + ", 5)", x.leaks(bad, 5), -1);
        }
    }

    private static void whenAndLast() {
        KIT.part("27 when, 28 last");
        BagsRiver x = Kit.on(Kit.STREET);
        int[] when = {4, -1, 4, 6, 6};
        for (int h = 0; h < 5; h++) {
            KIT.same("when(" + h + ")", x.when(h), when[h]);
        }
        KIT.same("last", x.last(), 30);
        x.post(8, 4, 0);
        KIT.same("the DRAIN leaks", x.when(0), 6);
        KIT.same("last", x.last(), 30);
        x.up(0);
        x.up(2);
        KIT.same("half of what is UP", x.last(), 30 + 20 + 25);
        x.hours(5);
        KIT.same("it is", x.when(2), -1);
        KIT.same("it will be", x.when(3), 6);
        for (int bad : new int[] {-1, 5, 10, LEAST, MOST}) {
            KIT.same("when(" + bad + ")", x.when(bad), -1);
        }
        KIT.same("the HOUR stays", x.now(0), 5);
        BagsRiver y = Kit.on("house a outside 9 3;gauge 47 4;");
        KIT.same("in the last HOUR", y.when(0), 47);
        KIT.same("last", y.last(), 0);
        y.hours(24);
        y.hours(23);
        KIT.same("in the last HOUR", y.when(0), 47);
        y.hours(1);
        KIT.same("behind it", y.last(), 0);
        BagsRiver z = Kit.on("house a outside 9 3;gauge 5 4;");
        z.hours(5);
        KIT.same("in this HOUR", z.when(0), 5);
        BagsRiver r = Kit.on("house a outside 9 3;gauge 40 3;");
        KIT.same("its FLOOR alone", r.when(0), -1);
        for (int i = 0; i < 48 && r.now(7) == 0; i++) {
            r.drawn(1, r.now(0));
        }
        KIT.same("RAIN so far", r.when(0), 40);
        KIT.same("last", r.last(), 0);
    }

    private static void carpets(BagsRiver x, int n, int worth, int bits) {
        KIT.same("carpets(" + n + ")", x.carpets(n), worth);
        KIT.same("carried()", x.carried(), bits);
    }

    private static void carpets() {
        KIT.part("29 carpets, 30 carried");
        BagsRiver x = Kit.on(Kit.STREET);
        KIT.same("ahead of any", x.carried(), -1);
        for (int bad : new int[] {-1, 11, LEAST, MOST}) {
            KIT.same("carpets(" + bad + ")", x.carpets(bad), -1);
        }
        KIT.same("still ahead of any", x.carried(), -1);
        carpets(x, 0, 0, 0);
        carpets(x, 1, 25, 4);
        carpets(x, 2, 45, 5);
        carpets(x, 3, 60, 7);
        carpets(x, 5, 75, 31);
        carpets(x, 10, 75, 31);
        x.up(2);
        carpets(x, 1, 20, 1);
        x.hours(5);
        carpets(x, 10, 15 + 10 + 5, 26);
        KIT.same("no such ones", x.carpets(11), -1);
        KIT.same("the latest stays", x.carried(), 26);
        String like = "house a outside 2 3;house b outside 5 3;house c outside 4 3;house d outside 5 9;house e outside 1 0;"
            + "house f outside 3 4;";
        carpets(Kit.on(like + "crest 4 1;"), 1, 2, 2);
        carpets(Kit.on(like + "crest 4 1;"), 2, 4, 6);
        carpets(Kit.on(like + "crest 4 1;"), 3, 5, 7);
        carpets(Kit.on(like + "crest 4 1;"), 4, 5, 23);
        carpets(Kit.on(like + "crest 4 1;crest 5 1;"), 9, 6, 55);
        carpets(Kit.on(like + "crest 10 1;crest 5 1;"), 2, 4, 6);
        carpets(Kit.on(like + "crest 3 1;"), 9, 0, 16);
        carpets(Kit.on(like), 9, 0, 0);
    }

    private static void built(BagsRiver x, int least, int most, int... bytes) {
        Kit.bytes(x, bytes);
        KIT.same("built()", x.built(), least);
        KIT.same("most()", x.most(), most);
        KIT.same("the tape", x.count(6), 0);
    }

    private static void built() {
        KIT.part("31 built, 32 most");
        BagsRiver x = Kit.on("wall a 1;wall b 2;");
        KIT.same("ahead of any", x.most(), -1);
        built(x, -1, -1);
        built(x, -1, -1, 1);
        built(x, -1, -1, 1, 2, 3);
        built(x, -1, -1, 1, 61);
        built(x, 12, 20, 3, 2);
        built(x, 0, 0 + 1, 0, 0);
        built(x, 1830 + 3660, 1890 + 3781, 60, 60);
        built(x, -1, 5671, 61, 1);
        built(x, -1, 5671, 255, 1);
        built(x, -1, 5671, 1, 128);
        built(x, -1, 5671, 1, 1, 1, 1, 1);
        x.quit(0);
        built(x, 1 + 2, 2 + 5, 1, 1);
        built(Kit.on("wall a 7;"), 7, 20, 1);
        built(Kit.on("wall a 7;house h outside 1 1;"), -1, -1, 1, 1);
        BagsRiver y = new BagsRiver();
        built(y, -1, -1);
        built(y, -1, -1, 0);
    }

    /** The document's draws, for one HOUR each. */
    private static int rainsOf(int seed, int hours) {
        int rains = 0;
        long x = seed;
        for (int i = 0; i < hours; i++) {
            x = (int) (x * 1103515245L + 12345L);
            long high = (x & 0xffffffffL) >> 8;
            rains += high % 6 == 0 ? 1 : 0;
        }
        return rains;
    }

    private static void drawn() {
        KIT.part("33 drawn");
        for (int bad : new int[] {0, 25, -1, LEAST, MOST}) {
            KIT.same("drawn(" + bad + ")", Kit.on(Kit.STREET).drawn(bad, 5), -1);
        }
        int rains = 0;
        for (int seed = -40; seed < 40; seed++) {
            int s = seed * 77777777;
            BagsRiver x = Kit.on("gauge 0 3;");
            KIT.same("drawn(24)", x.drawn(24, s), 24);
            KIT.same("RAIN", x.now(7), rainsOf(s, 24));
            KIT.same("RIVER", x.now(1), 3 + rainsOf(s, 24));
            KIT.same("drawn(20)", x.drawn(20, s), 20);
            KIT.same("RAIN", x.now(7), rainsOf(s, 24) + rainsOf(s, 20));
            KIT.same("what is left", x.drawn(9, s), 4);
            KIT.same("RAIN", x.now(7), rainsOf(s, 24) + rainsOf(s, 20) + rainsOf(s, 4));
            KIT.same("all are over", x.drawn(9, s), 0);
            KIT.same("RAIN", x.now(7), rainsOf(s, 24) + rainsOf(s, 20) + rainsOf(s, 4));
            rains += rainsOf(s, 24);
        }
        KIT.yes("it has RAINED now and then", rains > 100 && rains < 600);
        int rainy = 0;
        while (rainsOf(rainy, 1) == 0) {
            rainy++;
        }
        BagsRiver y = Kit.on("house a outside 9 3;gauge 0 3;");
        y.drawn(1, rainy);
        KIT.same("it RAINS ahead of the HOUR", y.house(0, 4), 0);
        KIT.part("34 odds");
        BagsRiver z = Kit.on("house a outside 9 3;house b outside 9 5;house c outside 9 60;gauge 20 2;");
        for (int n = 1; n <= 30; n++) {
            int[] floods = new int[3];
            for (int i = 0; i < n; i++) {
                int most = 2 + rainsOf(MOST - 3 + i, 24);
                floods[0] += most > 3 ? 1 : 0;
                floods[1] += most > 5 ? 1 : 0;
            }
            for (int h = 0; h < 3; h++) {
                KIT.same("odds(" + h + ", " + n + ")", z.odds(h, n, MOST - 3), floods[h]);
            }
        }
        KIT.same("the HOUR stays", z.now(0), 0);
        KIT.same("the RAIN stays", z.now(7), 0);
        for (int bad : new int[] {-1, 3, 10, LEAST, MOST}) {
            KIT.same("odds(" + bad + ")", z.odds(bad, 1, 1), -1);
        }
        for (int bad : new int[] {0, -1, 31, LEAST, MOST}) {
            KIT.same("odds(0, " + bad + ")", z.odds(0, bad, 1), -1);
        }
        BagsRiver w = Kit.on("house a outside 9 1;gauge 0 2;gauge 1 0;house b outside 9 60;");
        w.hours(1);
        KIT.same("it is flooded already", w.odds(0, 30, 5), 30);
        w.hours(24);
        w.hours(23);
        KIT.same("behind the end", w.odds(0, 30, 5), 30);
        KIT.same("behind the end", w.odds(1, 30, 5), 0);
        BagsRiver u = Kit.on("house a outside 9 30;gauge 24 60;");
        KIT.same("24 HOURS alone", u.odds(0, 30, 5), 0);
        u.hours(1);
        KIT.same("and the next one", u.odds(0, 30, 5), 30);
    }

    private static void told(BagsRiver x, int why, int lines, int hour, int saved) {
        KIT.all("told", new int[] {x.told(0), x.told(1), x.told(2), x.told(3)}, why, lines, hour, saved);
    }

    private static void books() {
        KIT.part("35 book, 36 told");
        BagsRiver x = Kit.on(Kit.STREET);
        KIT.same("a FAULT", Kit.book(x, "hour", 1), -6);
        KIT.same("ahead of any", x.told(0), -1);
        Kit.text(x, "post 8 4 left;hour 3;up shop;hour 2;quit left;");
        for (int lives : new int[] {-1, 2, LEAST, MOST}) {
            KIT.same("book(" + lives + ")", x.book(lives), -1000);
        }
        KIT.same("the tape stays", x.count(6), 46);
        KIT.same("ahead of any", x.told(0), -1);
        KIT.same("judged", x.book(0), -1);
        KIT.same("the tape", x.count(6), 0);
        told(x, 0, 5, 5, 100);
        KIT.same("all stays", x.now(0), 0);
        KIT.same("nothing can be undone", x.undo(), -1);
        KIT.same("lived", Kit.book(x, "post 8 4 left;hour 3;up shop;hour 2;quit left;", 1), -1);
        told(x, 0, 5, 5, 100);
        KIT.same("HOUR", x.now(0), 5);
        KIT.same("QUIT", x.wall(0, 3), 1);
        KIT.same("bags", x.now(9), 20 + 20 + 16 + 12 + 12);
        KIT.same("ready", x.now(3), 40);
        KIT.same("posted just so", Kit.book(x, "hour 1;post 8 4 left;hour 1;", 1), 1);
        told(x, 1, 1, 6, 60);
        KIT.same("HOUR", x.now(0), 6);
        KIT.same("too many people", Kit.book(x, "post 0 0 left;post 6 7 sink;", 0), 1);
        told(x, 9, 1, 6, 60);
        KIT.same("posted stays", x.posted(0), 8);
        KIT.same("it was QUIT", Kit.book(x, "hour 1;quit right;quit left;", 0), 2);
        told(x, 11, 2, 7, 30);
        KIT.same("it is flooded", Kit.book(x, "up inn;", 1), 0);
        told(x, 21, 0, 6, 60);
        KIT.same("they are UP", Kit.book(x, "up shop;", 1), 0);
        told(x, 22, 0, 6, 60);
        KIT.same("no LINE was lived", x.undo(), 1);
        KIT.same("HOUR", x.now(0), 5);
        KIT.same("the whole BOOK", x.undo(), 0);
        KIT.same("HOUR", x.now(0), 0);
        KIT.same("posted", x.posted(0), 0);
        KIT.same("fewer HOURS are left", Kit.book(x, "hour 24;hour 20;hour 5;", 0), 2);
        told(x, 31, 2, 44, 30);
        KIT.same("just as many", Kit.book(x, "hour 24;hour 24;", 0), -1);
        told(x, 0, 2, 48, 30);
        KIT.same("at the end", Kit.book(x, "hour 24;hour 24;post 1 1 sink;quit left;hour 1;", 0), 4);
        told(x, 31, 4, 48, 30);
        KIT.same("a FAULT", Kit.book(x, "hour 0;", 0), -7);
        told(x, 31, 4, 48, 30);
        for (int bad : new int[] {-1, 4, LEAST, MOST}) {
            KIT.same("told(" + bad + ")", x.told(bad), -1);
        }
        KIT.same("an empty one", x.book(1), -1);
        told(x, 0, 0, 0, 150);
        KIT.same("a DRAIN", Kit.book(x, "post 2 3 sink;", 1), -1);
        KIT.same("posted", x.posted(2), 10);
        KIT.same("a WALL", Kit.book(x, "post 2 3 right;", 1), -1);
        KIT.same("posted", x.posted(2), 1);
        KIT.same("F, C", x.posted(0) * 10 + x.posted(1), 23);
        KIT.same("more than 60 in all", Kit.book(x, "post 60 60 sink;", 1), 0);
        told(x, 9, 0, 0, 150);
    }

    private static void says(BagsRiver x, String sentence, int bits) {
        KIT.yes(sentence + " is one", Kit.sentence(x, sentence) > 0);
        KIT.same(sentence, Kit.saidBits(x), bits);
        KIT.same(sentence + ": one more", x.said(Integer.bitCount(bits)), -1);
    }

    private static void sentences() {
        KIT.part("37 sentence, 38 said");
        BagsRiver x = Kit.on(Kit.STREET);
        x.up(3);
        says(x, "upped", 8);
        says(x, "outside", 24);
        says(x, "flooded", 0);
        says(x, "not flooded", 31);
        says(x, "behind left", 3);
        says(x, "behind right", 4);
        says(x, "worth < 30", 24);
        says(x, "worth = 30", 2);
        says(x, "worth > 30", 5);
        says(x, "floor<6", 5);
        says(x, "floor=6", 8);
        says(x, "floor>6", 18);
        says(x, "number<1", 1);
        says(x, "number=3", 8);
        says(x, "number>3", 16);
        says(x, "number=005", 0);
        says(x, "safe", 31);
        says(x, "outside or behind left and worth > 30", 25);
        says(x, "(outside or behind left) and worth > 30", 1);
        says(x, "not outside and worth > 30", 5);
        says(x, "not (outside and worth < 20)", 15);
        says(x, "not not upped", 8);
        says(x, "upped or number=0 or number=2", 13);
        says(x, "number>0 and number<4 and not number=2", 10);
        x.hours(4);
        says(x, "safe", 2 | 8 | 16);
        KIT.same("as the latest", x.said(0), 1);
        x.hours(1);
        KIT.same("as all is now", Kit.saidBits(x), 26);
        says(x, "flooded", 5);
        says(x, "not safe and not flooded", 0);
        KIT.same("a FAULT", Kit.sentence(x, "upped or"), -9);
        KIT.same("the SENTENCE stays", Kit.saidBits(x), 0);
        says(x, "flooded", 5);
        for (int bad : new int[] {-2, 2, 10, LEAST, MOST}) {
            KIT.same("said(" + bad + ")", x.said(bad), -1);
        }
        x.hours(24);
        x.hours(19);
        says(x, "safe", 2);
        BagsRiver y = Kit.on("wall w 1;house h w 9 3;drain d w 4 1;gauge 1 4;people 5;rate 10;");
        y.post(2, 1, 0);
        y.hours(1);
        says(y, "safe", 0);
        y.post(2, 1, 10);
        KIT.same("as all is", y.said(-1), 0);
        y.hours(1);
        KIT.same("STOPPED", y.said(-1), 1);
        y.quit(0);
        KIT.same("QUIT", y.said(-1), 0);
        KIT.same("ONES", Kit.sentence(y, "not (safe or behind w and worth = 9)"), 5);
        KIT.same("one that is like another", Kit.sentence(y, "safe or safe"), 2);
    }

    private static void images() {
        KIT.part("39 image, 40 restore");
        BagsRiver x = Kit.on(Kit.STREET);
        for (int bad : new int[] {-1, 2, LEAST, MOST}) {
            KIT.no("image(" + bad + ")", x.image(bad));
            KIT.no("restore(" + bad + ")", x.restore(bad));
        }
        KIT.no("nothing is kept there", x.restore(0));
        KIT.no("nothing is kept there", x.restore(1));
        Kit.sentence(x, "behind right");
        x.post(8, 4, 0);
        x.hours(5);
        x.up(1);
        KIT.yes("image(1)", x.image(1));
        KIT.same("what can be undone stays", x.undo(), 2);
        x.up(1);
        KIT.no("nothing is kept there", x.restore(0));
        int[] then = nows(x);
        KIT.same("another STREET", Kit.street(x, "wall w 3;house right w 1 1;drain left w 2 2;crest 1 1;people 3;"), 5);
        Kit.sentence(x, "worth = 1");
        x.hours(7);
        KIT.yes("image(0)", x.image(0));
        x.carpets(1);
        Kit.text(x, "abc");
        KIT.yes("restore(1)", x.restore(1));
        KIT.same("the tape stays", x.count(6), 3);
        KIT.same("what was told stays", x.carried(), 0);
        x.end(0);
        KIT.all("now", nows(x), then);
        KIT.same("nothing can be undone", x.undo(), -1);
        KIT.same("walls", x.count(0), 2);
        KIT.same("houses", x.count(1), 5);
        KIT.same("drains", x.count(2), 1);
        KIT.same("crests", x.count(3), 3);
        KIT.same("people", x.count(4), 12);
        KIT.same("posted", x.posted(0) * 100 + x.posted(1) * 10 + x.posted(2), 840);
        KIT.same("the SENTENCE", Kit.saidBits(x), 4);
        KIT.same("UP", x.house(1, 5), 1);
        KIT.same("bags", x.wall(0, 1), 84);
        KIT.same("names", Kit.book(x, "quit right;up hut;post 1 1 sink;", 1), -1);
        KIT.yes("restore(0)", x.restore(0));
        KIT.same("HOUR", x.now(0), 7);
        KIT.same("walls", x.count(0), 1);
        KIT.same("the SENTENCE", Kit.saidBits(x), 1);
        KIT.same("names", Kit.book(x, "up right;post 1 1 left;quit w;", 1), -1);
        KIT.yes("restore(1) again", x.restore(1));
        KIT.all("now", nows(x), then);
        KIT.same("not QUIT in the image", x.wall(1, 3), 0);
        x.hours(1);
        KIT.yes("image(0) over the other", x.image(0));
        KIT.yes("restore(0)", x.restore(0));
        KIT.same("HOUR", x.now(0), 6);
        imagesInFull();
        imagesOfOneStreet();
        BagsRiver y = new BagsRiver();
        KIT.yes("an empty STREET", y.image(0));
        Kit.street(y, Kit.STREET);
        Kit.sentence(y, "safe");
        KIT.yes("restore", y.restore(0));
        KIT.same("walls", y.count(0), 0);
        KIT.same("no SENTENCE", y.said(-1), -1);
    }

    private static BagsRiver inFull() {
        BagsRiver x = Kit.on("wall a 3;wall b 4;house p a 9 1;house q b 8 1;house r outside 7 1;drain d b 5 5;drain e a 6 7;"
            + "crest 7 1;crest 9 2;gauge 0 1;gauge 2 9;people 9;sand 99;rate 9;");
        x.post(4, 2, 10);
        x.hours(1);
        x.up(2);
        x.drawn(3, 6);
        Kit.sentence(x, "worth > 7 and number < 9 or behind b");
        return x;
    }

    private static void imagesInFull() {
        BagsRiver x = inFull();
        int[] then = Kit.everything(x);
        KIT.yes("image(0)", x.image(0));
        KIT.same("a small one", Kit.street(x, "house h outside 3 3;"), 1);
        Kit.sentence(x, "floor < 3");
        int[] small = Kit.everything(x);
        KIT.yes("image(1)", x.image(1));
        KIT.yes("restore(0)", x.restore(0));
        KIT.all("as it was", Kit.everything(x), then);
        KIT.yes("restore(1)", x.restore(1));
        KIT.all("as it was", Kit.everything(x), small);
        Kit.street(x, "");
        KIT.yes("restore(0)", x.restore(0));
        KIT.all("as it was", Kit.everything(x), then);
        KIT.same("names", Kit.book(x, "post 1 1 e;post 1 1 b;quit b;", 0), -1);
    }

    private static void imagesOfOneStreet() {
        BagsRiver x = inFull();
        int[] then = Kit.everything(x);
        KIT.yes("image(0)", x.image(0));
        x.hours(9);
        x.quit(1);
        Kit.sentence(x, "safe");
        int[] later = Kit.everything(x);
        KIT.yes("image(1)", x.image(1));
        KIT.yes("restore(0)", x.restore(0));
        KIT.all("as it was", Kit.everything(x), then);
        KIT.yes("restore(1)", x.restore(1));
        KIT.all("as it was", Kit.everything(x), later);
    }

    private static void counts() {
        KIT.part("41 count");
        BagsRiver x = Kit.on(Kit.STREET);
        int[] due = {2, 5, 1, 3, 12, 5, 0};
        for (int i = 0; i < 7; i++) {
            KIT.same("count(" + i + ")", x.count(i), due[i]);
        }
        Kit.text(x, "abcdefghijklmnopqrstuvw");
        KIT.same("the tape", x.count(6), 23);
        for (int bad : new int[] {-1, 7, LEAST, MOST}) {
            KIT.same("count(" + bad + ")", x.count(bad), -1);
        }
    }
}
