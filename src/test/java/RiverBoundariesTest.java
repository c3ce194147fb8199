/** Each sentence of the document that names a boundary of what HOURS and acts do: its part 2, promises 6 to 17, 26 to 28. */
public final class RiverBoundariesTest {
    private static final Kit KIT = new Kit();
    private static final int LEAST = Integer.MIN_VALUE;
    private static final int MOST = Integer.MAX_VALUE;
    /** A seed whose first draw is 0: it RAINS. */
    private static final int RAINY = 0;

    public static void main(String[] args) {
        wallIsAsHigh();
        wallOfAllTheSand();
        wallThatWasQuit();
        drainIsStopped();
        riverOfAnHour();
        riverWithoutGauge();
        riverWithRain();
        postAsManyAsThereArePeople();
        postAtFirst();
        postFromThenOn();
        postNotAsTold();
        postJustSo();
        postWithoutWalls();
        postedWhat();
        quitHalfCut();
        quitAgain();
        quitNoSuchOne();
        upIsFlooded();
        upTheyAre();
        upAllTire();
        upNoSuchOne();
        hoursFromZeroTo48();
        hoursNotAsTold();
        bagsOfEachOne();
        bagsOneAtLeast();
        filledHalfCut();
        filledAsSandIsThere();
        carriedAsAreReady();
        carriedToAWallThatWasQuit();
        carriedToADrain();
        tireOrRest();
        aboveItsFloor();
        floodedOutside();
        floodedBehindAWall();
        floodedByADrain();
        floodedForGood();
        floodedBehindTheWork();
        savedHalfCut();
        wallWhat();
        houseWhat();
        drainWhat();
        nowWhat();
        takes();
        lacks();
        lacksFromNowOn();
        leaks();
        when();
        last();
        KIT.finish();
    }

    /** As many bags (400 at most) lie in a place behind the first HOUR; nobody is posted any more. */
    private static BagsRiver laid(String street, int bags, int where) {
        BagsRiver x = Kit.on(street + "people 60;rate 20;sand " + bags + ";");
        KIT.same("post", x.post(40, 20, where), 0);
        x.hours(1);
        KIT.same("bags in all", x.now(9), bags);
        x.post(0, 0, where);
        return x;
    }

    private static void wallIsAsHigh() {
        KIT.quote("A WALL of b bags is as high as the most inches h, so that WIDE by half of h by (h and 1) is b at most");
        KIT.same("no bags", Kit.on("wall w 1;").wall(0, 2), 0);
        for (int wide : new int[] {1, 2, 3, 7, 19, 20}) {
            for (int h = 1; wide * h * (h + 1) / 2 < 400; h++) {
                int takes = wide * h * (h + 1) / 2;
                String street = "wall v 9;wall w " + wide + ";";
                KIT.same(takes - 1 + " bags of " + wide, laid(street, takes - 1, 1).wall(1, 2), h - 1);
                KIT.same(takes + " bags of " + wide, laid(street, takes, 1).wall(1, 2), h);
                KIT.same(takes + 1 + " bags of " + wide, laid(street, takes + 1, 1).wall(1, 2), h);
            }
        }
    }

    private static void wallOfAllTheSand() {
        KIT.quote("A WALL of b bags is as high as the most inches h, so that WIDE by half of h by (h and 1) is b at most");
        for (int sand : new int[] {989, 990, 999}) {
            BagsRiver x = Kit.on("wall w 1;people 60;rate 20;sand " + sand + ";");
            x.post(40, 20, 0);
            x.hours(3);
            KIT.same("bags", x.wall(0, 1), sand);
            KIT.same("height of " + sand, x.wall(0, 2), sand < 990 ? 43 : 44);
        }
    }

    private static void wallThatWasQuit() {
        KIT.quote("one that was QUIT holds nothing");
        BagsRiver x = laid("wall w 1;house h w 9 0;gauge 2 1;", 55, 0);
        KIT.same("ten inches", x.wall(0, 2), 10);
        KIT.same("it holds", x.when(0), -1);
        x.quit(0);
        KIT.same("none", x.wall(0, 2), 0);
        KIT.same("QUIT", x.wall(0, 3), 1);
        KIT.same("it holds nothing", x.when(0), 2);
        BagsRiver y = Kit.on("wall w 1;house h w 9 0;");
        y.quit(0);
        KIT.same("no RIVER", y.when(0), -1);
    }

    private static void drainIsStopped() {
        KIT.quote("A DRAIN is STOPPED by as many BAGS as it takes, at least.");
        for (int takes : new int[] {1, 2, 39, 40}) {
            String street = "wall w 1;drain d w 5 " + takes + ";";
            if (takes > 1) {
                KIT.same("one less", laid(street, takes - 1, 10).drain(0, 4), 0);
            }
            KIT.same("none", Kit.on(street).drain(0, 4), 0);
            KIT.same("as many", laid(street, takes, 10).drain(0, 4), 1);
            KIT.same("one more", laid(street, takes + 1, 10).drain(0, 4), 1);
            KIT.same("many more", laid(street, 400, 10).drain(0, 4), 1);
            KIT.same("they lie on the WALL", laid(street, takes, 0).drain(0, 4), 0);
        }
    }

    private static void riverOfAnHour() {
        KIT.quote("RIVER of an HOUR: the INCH of the latest 'gauge' whose HOUR is that one or ahead of it (0 without)");
        for (String street : new String[] {"gauge 3 8;gauge 9 0;gauge 47 60;", "gauge 47 60;gauge 9 0;gauge 3 8;"}) {
            BagsRiver x = Kit.on(street);
            for (int hour = 0; hour <= 48; hour++) {
                KIT.same("HOUR", x.now(0), hour);
                KIT.same("RIVER of " + hour, x.now(1), hour < 3 ? 0 : hour < 9 ? 8 : hour < 47 ? 0 : 60);
                x.hours(1);
            }
        }
        KIT.same("the first HOUR", Kit.on("gauge 0 7;").now(1), 7);
    }

    private static void riverWithoutGauge() {
        KIT.quote("(0 without)");
        BagsRiver x = Kit.on("house h outside 9 0;");
        for (int hour = 0; hour <= 48; hour++) {
            KIT.same("RIVER of " + hour, x.now(1), 0);
            x.hours(1);
        }
        KIT.same("not flooded", x.now(6), 0);
    }

    private static void riverWithRain() {
        KIT.quote("and an inch for each RAIN so far");
        BagsRiver x = Kit.on("gauge 1 9;gauge 2 0;");
        KIT.same("none so far", x.now(1), 0);
        x.drawn(1, RAINY);
        KIT.same("one", x.now(1), 10);
        x.drawn(1, RAINY);
        KIT.same("two, on another gauge", x.now(1), 2);
        x.hours(24);
        KIT.same("they stay", x.now(1), 2);
        BagsRiver y = Kit.on("gauge 0 60;");
        for (int i = 0; i < 48; i++) {
            y.drawn(1, RAINY);
        }
        KIT.same("RAIN in each HOUR", y.now(7), 48);
        KIT.same("above sixty", y.now(1), 108);
    }

    private static void postAsManyAsThereArePeople() {
        KIT.quote("F who fill, C who carry (together as many as there are people at most)");
        for (int people : new int[] {1, 2, 10, 59, 60}) {
            BagsRiver x = Kit.on("wall w 1;people " + people + ";");
            KIT.same("all fill", x.post(people, 0, 0), 0);
            KIT.same("all carry", x.post(0, people, 0), 0);
            KIT.same("one carries", x.post(people - 1, 1, 0), people == 1 ? 1 : 0);
            KIT.same("one too many", x.post(people, 1, 0), -1);
            KIT.same("one too many", x.post(1, people, 0), -1);
            KIT.same("one too many", x.post(people + 1, 0, 0), -1);
            KIT.same("one too many", x.post(0, people + 1, 0), -1);
            KIT.same("F stays", x.posted(0), people - 1);
            KIT.same("C stays", x.posted(1), 1);
            KIT.same("nobody", x.post(0, 0, 0), 0);
        }
        BagsRiver y = Kit.on("wall w 1;");
        KIT.same("10 without", y.post(5, 5, 0), 0);
        KIT.same("11", y.post(5, 6, 0), -1);
    }

    private static void postAtFirst() {
        KIT.quote("it is so from then on (at first nobody, to WALL 0)");
        for (BagsRiver x : new BagsRiver[] {Kit.on(Kit.STREET), new BagsRiver()}) {
            KIT.same("F", x.posted(0), 0);
            KIT.same("C", x.posted(1), 0);
            KIT.same("WALL 0", x.posted(2), 0);
        }
        KIT.same("they are just so", Kit.on(Kit.STREET).post(0, 0, 0), 1);
        KIT.same("where to alone", Kit.on(Kit.STREET).post(0, 0, 1), 0);
    }

    private static void postFromThenOn() {
        KIT.quote("it is so from then on (at first nobody, to WALL 0)");
        BagsRiver x = Kit.on(Kit.STREET);
        x.post(4, 3, 10);
        x.hours(24);
        x.quit(0);
        x.hours(24);
        KIT.all("posted", new int[] {x.posted(0), x.posted(1), x.posted(2)}, 4, 3, 10);
    }

    private static void postNotAsTold() {
        KIT.quote("F and C are POSTED to w (as told by posted()): 0; 1: they are just so; NONE: not as told.");
        int[][] wrong = {{-1, 0, 0}, {0, -1, 0}, {-1, -1, 0}, {13, -1, 0}, {-1, 13, 0}, {LEAST, 0, 0}, {0, LEAST, 0},
            {LEAST, LEAST, 0}, {MOST, 0, 0}, {0, MOST, 0}, {MOST, MOST, 0}, {MOST, 1, 0}, {LEAST, MOST, 0}, {MOST, LEAST, 0},
            {13, 0, 0}, {0, 13, 0}, {6, 7, 0}, {1, 1, -1}, {1, 1, 2}, {1, 1, 4}, {1, 1, 5}, {1, 1, 9}, {1, 1, 11}, {1, 1, 16},
            {1, 1, LEAST}, {1, 1, LEAST + 9}, {1, 1, LEAST + 10}, {1, 1, MOST}};
        for (int[] w : wrong) {
            String call = "post(" + w[0] + ", " + w[1] + ", " + w[2] + ")";
            KIT.leavesAll(call, x -> Kit.street(x, Kit.STREET), x -> KIT.same(call, x.post(w[0], w[1], w[2]), -1));
        }
        BagsRiver x = Kit.on(Kit.STREET);
        KIT.same("the last WALL", x.post(1, 1, 1), 0);
        KIT.same("the first DRAIN", x.post(1, 1, 10), 0);
        BagsRiver noDrain = Kit.on("wall w 1;");
        KIT.same("no DRAIN", noDrain.post(1, 1, 10), -1);
        KIT.same("no DRAIN below 0", noDrain.post(1, 1, 9), -1);
    }

    private static void postJustSo() {
        KIT.quote("F and C are POSTED to w (as told by posted()): 0; 1: they are just so; NONE: not as told.");
        BagsRiver x = Kit.on(Kit.STREET);
        KIT.same("posted", x.post(5, 6, 1), 0);
        KIT.same("just so", x.post(5, 6, 1), 1);
        KIT.same("another F", x.post(4, 6, 1), 0);
        KIT.same("another C", x.post(4, 7, 1), 0);
        KIT.same("another w", x.post(4, 7, 0), 0);
        KIT.same("F and C changed round", x.post(7, 4, 0), 0);
        x.hours(1);
        KIT.same("just so behind an HOUR", x.post(7, 4, 0), 1);
        KIT.leavesAll("just so", y -> {
            Kit.street(y, Kit.STREET);
            y.post(3, 3, 1);
        }, y -> KIT.same("just so", y.post(3, 3, 1), 1));
    }

    private static void postWithoutWalls() {
        KIT.quote("F and C are POSTED to w (as told by posted()): 0; 1: they are just so; NONE: not as told.");
        BagsRiver x = Kit.on("house h outside 5 5;");
        KIT.same("no WALL 0", x.post(1, 1, 0), -1);
        KIT.same("no WALL 0 for nobody", x.post(0, 0, 0), -1);
        KIT.same("no DRAIN 0", x.post(1, 1, 10), -1);
        KIT.same("nothing to undo", x.undo(), -1);
    }

    private static void postedWhat() {
        KIT.quote("0 who fill, 1 who carry, 2 where to (a WALL's number, 10 and a DRAIN's). NONE for another what.");
        BagsRiver x = Kit.on("wall a 1;wall b 1;wall c 1;wall d 1;wall e 1;drain f a 1 1;drain g a 1 1;drain h a 1 1;"
            + "drain i a 1 1;drain j a 1 1;drain k a 1 1;");
        for (int w : new int[] {4, 1, 10, 15}) {
            x.post(2, 3, w);
            KIT.all("posted", new int[] {x.posted(0), x.posted(1), x.posted(2)}, 2, 3, w);
        }
        KIT.same("no WALL 5", x.post(2, 3, 5), -1);
        KIT.same("no DRAIN 6", x.post(2, 3, 16), -1);
        for (int bad : new int[] {-1, 3, LEAST, MOST}) {
            KIT.same("posted(" + bad + ")", x.posted(bad), -1);
        }
    }

    private static void quitHalfCut() {
        KIT.quote("half of its bags (cut) are ready, it has none");
        for (int bags : new int[] {0, 1, 2, 3, 4, 5, 399, 400}) {
            BagsRiver x = laid("wall w 1;", bags, 0);
            KIT.same("none are ready", x.now(3), 0);
            KIT.same("quit", x.quit(0), 0);
            KIT.same("half of " + bags, x.now(3), bags / 2);
            KIT.same("it has none", x.wall(0, 1), 0);
            KIT.same("carried so far", x.now(9), bags);
            KIT.same("sand", x.now(2), 0);
        }
        BagsRiver y = Kit.on("wall w 1;people 9;rate 5;");
        y.post(4, 1, 0);
        y.hours(1);
        y.quit(0);
        KIT.same("those that were ready stay so", y.now(3), 5 + 2);
    }

    private static void quitAgain() {
        KIT.quote("To QUIT a WALL: why not: 1 it was QUIT");
        KIT.leavesAll("quit again", x -> {
            Kit.street(x, Kit.STREET);
            x.post(8, 4, 0);
            x.hours(2);
            x.quit(0);
        }, x -> KIT.same("quit again", x.quit(0), 1));
        BagsRiver x = Kit.on(Kit.STREET);
        x.quit(0);
        x.undo();
        KIT.same("it was not, any more", x.quit(0), 0);
        KIT.same("another one", x.quit(1), 0);
    }

    private static void quitNoSuchOne() {
        KIT.quote("A WALL is QUIT: 0, or why not; NONE: no such one.");
        for (int bad : new int[] {-1, 2, 4, 5, 10, 31, 32, LEAST, MOST}) {
            KIT.leavesAll("quit(" + bad + ")", x -> Kit.street(x, Kit.STREET),
                x -> KIT.same("quit(" + bad + ")", x.quit(bad), -1));
        }
        KIT.same("the last one", Kit.on(Kit.STREET).quit(1), 0);
        KIT.same("none", new BagsRiver().quit(0), -1);
    }

    private static BagsRiver flooded(String street) {
        BagsRiver x = Kit.on(street);
        x.hours(1);
        return x;
    }

    private static void upIsFlooded() {
        KIT.quote("To carry things UP in a HOUSE: 1 it is flooded; 2 they are: all TIRE by 1.");
        BagsRiver x = Kit.on("house h outside 9 1;house g outside 9 2;gauge 0 2;");
        KIT.same("UP ahead of the RIVER", x.up(0), 0);
        x.hours(1);
        KIT.same("flooded, and they are", x.up(0), 1);
        KIT.same("not flooded", x.up(1), 0);
        KIT.leavesAll("it is flooded", y -> {
            Kit.street(y, "house h outside 9 1;gauge 0 2;");
            y.hours(1);
        }, y -> KIT.same("flooded", y.up(0), 1));
        KIT.same("the RIVER has fallen", flooded("house h outside 9 1;gauge 0 2;gauge 1 0;").up(0), 1);
    }

    private static void upTheyAre() {
        KIT.quote("To carry things UP in a HOUSE: 1 it is flooded; 2 they are: all TIRE by 1.");
        KIT.leavesAll("they are", x -> {
            Kit.street(x, Kit.STREET);
            x.up(4);
        }, x -> KIT.same("they are", x.up(4), 2));
        BagsRiver x = Kit.on(Kit.STREET);
        x.up(0);
        x.undo();
        KIT.same("they are not, any more", x.up(0), 0);
    }

    private static void upAllTire() {
        KIT.quote("To carry things UP in a HOUSE: 1 it is flooded; 2 they are: all TIRE by 1.");
        BagsRiver x = Kit.on("rate 3;house a outside 1 1;house b outside 1 1;house c outside 1 1;house d outside 1 1;"
            + "house e outside 1 1;house f outside 1 1;house g outside 1 1;house h outside 1 1;house i outside 1 1;"
            + "house j outside 1 1;");
        int[] each = {3, 3, 2, 2, 1, 1, 1, 1, 1, 1, 1};
        for (int h = 0; h < 10; h++) {
            KIT.same("up(" + h + ")", x.up(h), 0);
            KIT.same("TIRED", x.now(4), h + 1);
            KIT.same("bags of each", x.now(5), each[h + 1]);
        }
    }

    private static void upNoSuchOne() {
        KIT.quote("Things are carried UP in a HOUSE: 0, or why not; NONE: no such one.");
        for (int bad : new int[] {-1, 5, 9, 10, 32, LEAST, MOST}) {
            KIT.leavesAll("up(" + bad + ")", x -> Kit.street(x, Kit.STREET), x -> KIT.same("up(" + bad + ")", x.up(bad), -1));
        }
        KIT.same("the last one", Kit.on(Kit.STREET).up(4), 0);
        KIT.same("none", new BagsRiver().up(0), -1);
    }

    private static void hoursFromZeroTo48() {
        KIT.quote("An HOUR (0 to 47; 48: all are over) goes");
        BagsRiver x = Kit.on(Kit.STREET);
        for (int hour = 0; hour < 48; hour++) {
            KIT.same("HOUR", x.now(0), hour);
            KIT.same("one goes by", x.hours(1), 1);
        }
        KIT.same("all are over", x.now(0), 48);
        KIT.same("none goes by", x.hours(1), 0);
        KIT.same("none goes by", x.hours(24), 0);
        KIT.same("none is DRAWN", x.drawn(24, RAINY), 0);
        KIT.same("all are over", x.now(0), 48);
        BagsRiver y = Kit.on(Kit.STREET);
        KIT.same("24", y.hours(24), 24);
        KIT.same("23", y.hours(23), 23);
        KIT.same("one of two", y.hours(2), 1);
        KIT.same("48", y.now(0), 48);
        BagsRiver z = Kit.on(Kit.STREET);
        z.hours(24);
        KIT.same("all that are left", z.hours(24), 24);
        KIT.same("none", z.hours(24), 0);
        KIT.leavesAll("all are over", w -> {
            Kit.street(w, Kit.STREET);
            w.post(8, 4, 0);
            w.hours(24);
            w.hours(24);
        }, w -> KIT.same("all are over", w.hours(1) + w.drawn(1, RAINY), 0));
    }

    private static void hoursNotAsTold() {
        KIT.quote("n (1 to 24) HOURS go by: how many did; NONE: not as told.");
        for (int bad : new int[] {0, -1, 25, 48, LEAST, MOST}) {
            KIT.leavesAll("hours(" + bad + ")", x -> Kit.street(x, Kit.STREET),
                x -> KIT.same("hours(" + bad + ")", x.hours(bad), -1));
        }
        KIT.same("the least", Kit.on("").hours(1), 1);
        KIT.same("the most", Kit.on("").hours(24), 24);
        BagsRiver over = Kit.on("");
        over.hours(24);
        over.hours(24);
        KIT.same("not as told, at the end", over.hours(25), -1);
        KIT.same("not as told, at the end", over.hours(0), -1);
    }

    private static void bagsOfEachOne() {
        KIT.quote("each one does as many bags as 'rate' less half (cut) of how much all are TIRED (1 at least)");
        BagsRiver x = Kit.on("wall w 1;rate 20;people 1;sand 0;");
        x.post(0, 1, 0);
        for (int tired = 0; tired <= 48; tired++) {
            KIT.same("TIRED", x.now(4), tired);
            KIT.same("bags by " + tired, x.now(5), Math.max(1, 20 - tired / 2));
            x.hours(1);
        }
        BagsRiver y = Kit.on("wall w 1;rate 4;people 3;sand 999;");
        y.post(2, 1, 0);
        int carried = 0;
        for (int hour = 0; hour < 12; hour++) {
            y.hours(1);
            carried += Math.max(1, 4 - hour / 2);
            KIT.same("bags behind " + hour, y.wall(0, 1), carried);
            KIT.same("none are ready", y.now(3), 0);
        }
    }

    private static void bagsOneAtLeast() {
        KIT.quote("each one does as many bags as 'rate' less half (cut) of how much all are TIRED (1 at least)");
        BagsRiver x = Kit.on("wall w 1;rate 1;people 3;sand 999;");
        x.post(2, 1, 0);
        x.hours(24);
        x.hours(24);
        KIT.same("TIRED", x.now(4), 48);
        KIT.same("one each HOUR", x.wall(0, 1), 48);
        KIT.same("one", x.now(5), 1);
    }

    private static void filledHalfCut() {
        KIT.quote("Filled are half of F (cut) by that, as much as there is sand; they are ready.");
        int[] filled = {0, 0, 7, 7, 14, 14, 21};
        for (int f = 0; f < filled.length; f++) {
            BagsRiver x = Kit.on("wall w 1;rate 7;");
            x.post(f, 0, 0);
            x.hours(1);
            KIT.same("ready by " + f, x.now(3), filled[f]);
            KIT.same("sand", x.now(2), 900 - filled[f]);
        }
        BagsRiver most = Kit.on("wall w 1;rate 20;people 60;sand 999;");
        most.post(60, 0, 0);
        most.hours(1);
        KIT.same("half of sixty by twenty", most.now(3), 600);
    }

    private static void filledAsSandIsThere() {
        KIT.quote("Filled are half of F (cut) by that, as much as there is sand; they are ready.");
        int[][] due = {{0, 0}, {1, 1}, {13, 13}, {14, 14}, {15, 14}, {16, 14}};
        for (int[] d : due) {
            BagsRiver x = Kit.on("wall w 1;rate 7;sand " + d[0] + ";");
            x.post(4, 0, 0);
            x.hours(1);
            KIT.same("ready of " + d[0], x.now(3), d[1]);
            KIT.same("sand left", x.now(2), d[0] - d[1]);
        }
    }

    private static void carriedAsAreReady() {
        KIT.quote("Carried are C by that, as many as are ready");
        int[][] due = {{0, 0, 14}, {1, 7, 7}, {2, 14, 0}, {3, 14, 0}};
        for (int[] d : due) {
            BagsRiver x = Kit.on("wall w 1;rate 7;");
            x.post(4, d[0], 0);
            x.hours(1);
            KIT.same("on the WALL by " + d[0], x.wall(0, 1), d[1]);
            KIT.same("ready", x.now(3), d[2]);
            KIT.same("carried so far", x.now(9), d[1]);
        }
        BagsRiver none = Kit.on("wall w 1;rate 7;");
        none.post(1, 9, 0);
        none.hours(1);
        KIT.same("none are ready", none.now(9), 0);
        BagsRiver y = Kit.on("wall w 1;rate 7;sand 20;");
        y.post(6, 0, 0);
        y.hours(1);
        y.post(0, 2, 0);
        y.hours(1);
        KIT.same("less than are ready", y.now(3), 6);
        y.hours(1);
        KIT.same("all that are ready", y.wall(0, 1), 20);
        y.hours(1);
        KIT.same("no more", y.wall(0, 1), 20);
    }

    private static void carriedToAWallThatWasQuit() {
        KIT.quote("they lie on the WALL (none are carried, if it was QUIT, or there are no WALLS), on the DRAIN");
        BagsRiver x = Kit.on("wall w 1;wall v 1;drain d w 5 5;rate 7;");
        x.quit(0);
        x.post(4, 1, 0);
        x.hours(1);
        KIT.same("filled all the same", x.now(3), 14);
        KIT.same("none are carried", x.now(9), 0);
        KIT.same("it has none", x.wall(0, 1), 0);
        KIT.same("all TIRE", x.now(4), 1);
        x.post(0, 1, 1);
        x.hours(1);
        KIT.same("to another one", x.wall(1, 1), 7);
        x.post(0, 1, 10);
        x.hours(1);
        KIT.same("to a DRAIN of it", x.drain(0, 3), 6);
        BagsRiver none = Kit.on("house h outside 9 1;gauge 0 2;");
        KIT.same("no WALLS", none.hours(3), 3);
        KIT.same("none are carried", none.now(9) + none.now(3), 0);
        KIT.same("flooded all the same", none.now(6), 1);
    }

    private static void carriedToADrain() {
        KIT.quote("they lie on the WALL (none are carried, if it was QUIT, or there are no WALLS), on the DRAIN");
        BagsRiver x = Kit.on("wall w 1;wall v 1;drain d w 5 5;drain e v 5 5;rate 7;");
        x.post(4, 2, 11);
        x.hours(1);
        KIT.same("more than it takes", x.drain(1, 3), 14);
        KIT.same("none on the other", x.drain(0, 3), 0);
        KIT.same("none on the WALLS", x.wall(0, 1) + x.wall(1, 1), 0);
        KIT.same("carried so far", x.now(9), 14);
        x.quit(1);
        KIT.same("they stay on the DRAIN", x.drain(1, 3), 14);
        KIT.same("none are ready by it", x.now(3), 0);
    }

    private static void tireOrRest() {
        KIT.quote("If somebody is posted, all TIRE by 1, else they rest by 2 (0 at least).");
        int[][] posts = {{1, 0}, {0, 1}, {1, 1}, {5, 5}};
        for (int[] p : posts) {
            BagsRiver x = Kit.on("wall w 1;sand 0;");
            x.post(p[0], p[1], 0);
            x.hours(1);
            KIT.same("all TIRE by " + p[0] + " " + p[1], x.now(4), 1);
        }
        BagsRiver nobody = Kit.on("wall w 1;wall v 1;");
        nobody.post(0, 0, 1);
        nobody.hours(1);
        KIT.same("nobody is posted, to another WALL", nobody.now(4), 0);
        int[] behind = {0, 0, 0, 1, 2, 3};
        for (int tired = 0; tired < behind.length; tired++) {
            BagsRiver x = Kit.on("wall w 1;sand 0;");
            x.post(0, 1, 0);
            if (tired > 0) {
                x.hours(tired);
            }
            x.post(0, 0, 0);
            KIT.same("TIRED", x.now(4), tired);
            x.hours(1);
            KIT.same("rest of " + tired, x.now(4), behind[tired]);
        }
    }

    private static void aboveItsFloor() {
        KIT.quote("Then HOUSE by HOUSE, if the RIVER is above its FLOOR: it is flooded for good, if it is outside");
        for (int floor : new int[] {0, 1, 59, 60}) {
            for (int inch : new int[] {0, floor - 1, floor, floor + 1, 60}) {
                if (inch >= 0 && inch <= 60) {
                    BagsRiver x = flooded("house h outside 9 " + floor + ";gauge 0 " + inch + ";");
                    KIT.same("RIVER " + inch + " FLOOR " + floor, x.house(0, 3), inch > floor ? 1 : 0);
                    KIT.same("its HOUR", x.house(0, 4), inch > floor ? 0 : -1);
                }
            }
        }
        BagsRiver rain = Kit.on("house h outside 9 60;gauge 0 60;");
        rain.drawn(1, RAINY);
        KIT.same("above sixty by RAIN", rain.house(0, 3), 1);
    }

    private static void floodedOutside() {
        KIT.quote("Then HOUSE by HOUSE, if the RIVER is above its FLOOR: it is flooded for good, if it is outside");
        BagsRiver x = Kit.on("wall w 1;house a outside 9 3;house b w 9 3;house c outside 9 4;gauge 1 4;people 9;rate 9;");
        x.post(4, 2, 0);
        x.hours(1);
        KIT.same("five inches", x.wall(0, 2), 5);
        x.hours(1);
        KIT.same("the one outside alone", x.now(6), 1);
    }

    private static void floodedBehindAWall() {
        KIT.quote("its WALL was QUIT, or is less high than the RIVER");
        String street = "wall w 2;house h w 9 2;house g w 9 4;gauge 1 4;";
        KIT.same("as high as the RIVER", heldBy(laid(street, 20, 0)), 0);
        KIT.same("higher", heldBy(laid(street, 200, 0)), 0);
        KIT.same("a bag less", heldBy(laid(street, 19, 0)), 1);
        KIT.same("none", heldBy(laid(street, 0, 0)), 1);
        BagsRiver quit = laid(street, 400, 0);
        quit.quit(0);
        KIT.same("QUIT", heldBy(quit), 1);
        BagsRiver other = laid("wall v 1;" + street, 400, 0);
        KIT.same("the bags lie on another WALL", heldBy(other), 1);
        BagsRiver high = laid("wall w 1;house h w 9 0;gauge 1 60;", 400, 0);
        KIT.same("27 inches for sixty", heldBy(high), 1);
    }

    private static int heldBy(BagsRiver x) {
        x.hours(1);
        return x.now(6);
    }

    private static void floodedByADrain() {
        KIT.quote("or a DRAIN of its WALL whose INCH is the RIVER at most is not STOPPED");
        String street = "wall w 1;house h w 9 2;gauge 1 4;";
        KIT.same("its INCH is the RIVER", heldBy(laid(street + "drain d w 4 1;", 10, 0)), 1);
        KIT.same("its INCH is an inch less", heldBy(laid(street + "drain d w 3 1;", 10, 0)), 1);
        KIT.same("its INCH is 0", heldBy(laid(street + "drain d w 0 1;", 10, 0)), 1);
        KIT.same("its INCH is an inch more", heldBy(laid(street + "drain d w 5 1;", 10, 0)), 0);
        KIT.same("of another WALL", heldBy(laid(street + "wall v 1;drain d v 0 1;", 10, 0)), 0);
        KIT.same("RIVER at the FLOOR", heldBy(laid("wall w 1;house h w 9 4;gauge 1 4;drain d w 0 1;", 0, 0)), 0);
        for (int bags = 2; bags <= 4; bags++) {
            BagsRiver x = Kit.on(street + "drain d w 4 3;drain e w 5 9;people 60;rate 1;sand " + (10 + bags) + ";");
            x.post(20, 10, 0);
            x.hours(1);
            x.post(10, 10, 10);
            x.hours(1);
            KIT.same("bags on the DRAIN", x.drain(0, 3), bags);
            KIT.same("STOPPED by " + bags, x.now(6), bags >= 3 ? 0 : 1);
        }
        BagsRiver two = Kit.on(street + "drain d w 4 1;drain e w 4 1;people 60;rate 1;sand 11;");
        two.post(20, 10, 0);
        two.hours(1);
        two.post(2, 1, 10);
        two.hours(1);
        KIT.same("one of two is STOPPED", two.drain(0, 4) * 10 + two.drain(1, 4), 10);
        KIT.same("the other leaks", two.now(6), 1);
    }

    private static void floodedForGood() {
        KIT.quote("it is flooded for good");
        BagsRiver x = Kit.on("house h outside 9 2;house g outside 9 4;gauge 1 3;gauge 2 0;gauge 5 60;");
        x.hours(2);
        KIT.same("its HOUR", x.house(0, 4), 1);
        x.hours(2);
        KIT.same("the RIVER has fallen", x.house(0, 3), 1);
        KIT.same("its HOUR", x.house(0, 4), 1);
        x.hours(2);
        KIT.same("the RIVER is there again", x.house(0, 4), 1);
        KIT.same("the other one's HOUR", x.house(1, 4), 5);
    }

    private static void floodedBehindTheWork() {
        KIT.quote("Then HOUSE by HOUSE, if the RIVER is above its FLOOR");
        BagsRiver x = Kit.on("wall w 1;house h w 9 2;gauge 0 3;people 3;rate 6;");
        x.post(2, 1, 0);
        x.hours(1);
        KIT.same("bags of this HOUR hold it", x.now(6), 0);
        BagsRiver y = Kit.on("wall w 1;house h w 9 2;gauge 0 3;people 3;rate 5;");
        y.post(2, 1, 0);
        y.hours(1);
        KIT.same("one bag less", y.now(6), 1);
        BagsRiver z = Kit.on("wall w 1;house h w 9 2;drain d w 3 4;gauge 1 3;people 30;rate 6;");
        z.post(2, 1, 0);
        z.hours(1);
        z.post(2, 1, 10);
        z.hours(1);
        KIT.same("the DRAIN is STOPPED in this HOUR", z.now(6), 0);
    }

    private static void savedHalfCut() {
        KIT.quote("SAVED: the WORTH of all HOUSES that are not flooded, and half of it (cut) of each flooded one "
            + "whose things are UP.");
        int[][] due = {{1, 0}, {2, 1}, {3, 1}, {98, 49}, {99, 49}};
        for (int[] d : due) {
            BagsRiver x = Kit.on("house h outside " + d[0] + " 1;gauge 0 2;");
            KIT.same("not flooded", x.now(8), d[0]);
            x.up(0);
            KIT.same("UP and not flooded", x.now(8), d[0]);
            x.hours(1);
            KIT.same("flooded and UP", x.now(8), d[1]);
            KIT.same("flooded, not UP", flooded("house h outside " + d[0] + " 1;gauge 0 2;").now(8), 0);
        }
        BagsRiver two = Kit.on("house h outside 3 1;house g outside 3 1;gauge 0 2;");
        two.up(0);
        two.up(1);
        two.hours(1);
        KIT.same("cut each", two.now(8), 2);
        KIT.same("no HOUSES", Kit.on("gauge 0 9;").now(8), 0);
    }

    private static void wallWhat() {
        KIT.quote("Of a WALL: 0 WIDE, 1 bags, 2 how high it is (QUIT: 0), 3 QUIT (1, 0), 4 HOUSES behind it, as bits, "
            + "5 its DRAINS, as bits. NONE: no such ones.");
        BagsRiver x = laid("wall a 1;wall b 20;house p b 5 5;house q a 5 5;house r outside 5 5;drain d a 1 1;", 7, 0);
        int[][] due = {{1, 7, 3, 0, 2, 1}, {20, 0, 0, 0, 1, 0}};
        for (int w = 0; w < 2; w++) {
            for (int what = 0; what < 6; what++) {
                KIT.same("wall(" + w + ", " + what + ")", x.wall(w, what), due[w][what]);
            }
            for (int bad : new int[] {-1, 6, LEAST, MOST}) {
                KIT.same("wall(" + w + ", " + bad + ")", x.wall(w, bad), -1);
            }
        }
        for (int bad : new int[] {-1, 2, 4, 5, 6, LEAST, MOST}) {
            KIT.same("wall(" + bad + ", 0)", x.wall(bad, 0), -1);
        }
        x.quit(0);
        KIT.all("QUIT", new int[] {x.wall(0, 0), x.wall(0, 1), x.wall(0, 2), x.wall(0, 3), x.wall(0, 4), x.wall(0, 5)},
            1, 0, 0, 1, 2, 1);
        KIT.same("no WALLS", new BagsRiver().wall(0, 0), -1);
    }

    private static void houseWhat() {
        KIT.quote("Of a HOUSE: 0 its WALL (NONE: outside), 1 WORTH, 2 FLOOR, 3 flooded (1, 0), 4 the HOUR in which it was "
            + "(NONE), 5 things UP (1, 0). NoSuchElementException: no such ones.");
        BagsRiver x = Kit.on("wall w 1;house h w 9 3;house g outside 8 2;gauge 1 3;");
        x.up(1);
        x.hours(2);
        int[][] due = {{0, 9, 3, 0, -1, 0}, {-1, 8, 2, 1, 1, 1}};
        for (int h = 0; h < 2; h++) {
            for (int what = 0; what < 6; what++) {
                KIT.same("house(" + h + ", " + what + ")", x.house(h, what), due[h][what]);
            }
        }
        int[][] wrong = {{-1, 0}, {2, 0}, {9, 0}, {10, 0}, {LEAST, 0}, {MOST, 0}, {0, -1}, {0, 6}, {0, LEAST}, {0, MOST},
            {-1, -1}, {2, 6}};
        for (int[] w : wrong) {
            KIT.leavesAll("house(" + w[0] + ", " + w[1] + ")", y -> Kit.street(y, "wall w 1;house h w 9 3;house g outside 8 2;"),
                y -> KIT.same("house(" + w[0] + ", " + w[1] + ")", Kit.caught(() -> y.house(w[0], w[1])), Kit.THROWS));
        }
        KIT.same("no HOUSES", Kit.caught(() -> new BagsRiver().house(0, 0)), Kit.THROWS);
    }

    private static void drainWhat() {
        KIT.quote("Of a DRAIN: 0 its WALL, 1 INCH, 2 BAGS that it takes, 3 bags, 4 STOPPED (1, 0). NONE: no such ones.");
        BagsRiver x = laid("wall a 1;wall b 1;drain d b 60 40;drain e a 0 3;", 3, 11);
        int[][] due = {{1, 60, 40, 0, 0}, {0, 0, 3, 3, 1}};
        for (int d = 0; d < 2; d++) {
            for (int what = 0; what < 5; what++) {
                KIT.same("drain(" + d + ", " + what + ")", x.drain(d, what), due[d][what]);
            }
            for (int bad : new int[] {-1, 5, LEAST, MOST}) {
                KIT.same("drain(" + d + ", " + bad + ")", x.drain(d, bad), -1);
            }
        }
        for (int bad : new int[] {-1, 2, 5, 6, 10, LEAST, MOST}) {
            KIT.same("drain(" + bad + ", 0)", x.drain(bad, 0), -1);
        }
        KIT.same("no DRAINS", new BagsRiver().drain(0, 0), -1);
    }

    private static void nowWhat() {
        KIT.quote("0 the HOUR, 1 the RIVER, 2 sand, 3 bags that are ready, 4 how much all are TIRED, 5 how many bags each "
            + "one does in this HOUR, 6 HOUSES that are flooded, as bits, 7 RAIN so far, 8 SAVED, 9 bags that were carried "
            + "so far. NONE for another what.");
        int[] empty = {0, 0, 900, 0, 0, 11, 0, 0, 0, 0};
        BagsRiver x = new BagsRiver();
        for (int what = 0; what < 10; what++) {
            KIT.same("now(" + what + ") of an empty STREET", x.now(what), empty[what]);
        }
        for (int bad : new int[] {-1, 10, LEAST, MOST}) {
            KIT.same("now(" + bad + ")", x.now(bad), -1);
        }
        String all = "house a outside 1 0;house b outside 1 0;house c outside 1 0;house d outside 1 0;house e outside 1 0;"
            + "house f outside 1 0;house g outside 1 0;house h outside 1 0;house i outside 1 0;house j outside 1 0;gauge 0 1;";
        KIT.same("all ten are flooded", flooded(all).now(6), 1023);
    }

    private static void takes() {
        KIT.quote("How many bags a WALL takes to be h (0 to 60) inches high; NONE: no such ones.");
        BagsRiver x = Kit.on("wall a 1;wall b 20;");
        for (int h = 0; h <= 60; h++) {
            KIT.same("takes(0, " + h + ")", x.takes(0, h), h * (h + 1) / 2);
            KIT.same("takes(1, " + h + ")", x.takes(1, h), 10 * h * (h + 1));
        }
        for (int bad : new int[] {-1, 61, 62, LEAST, MOST}) {
            KIT.same("takes(0, " + bad + ")", x.takes(0, bad), -1);
        }
        for (int bad : new int[] {-1, 2, 4, 5, LEAST, MOST}) {
            KIT.same("takes(" + bad + ", 0)", x.takes(bad, 0), -1);
        }
        KIT.same("both wrong", x.takes(2, 61), -1);
        KIT.same("no WALLS", new BagsRiver().takes(0, 0), -1);
        KIT.same("bags that lie there do not matter", laid("wall w 2;", 99, 0).takes(0, 3), 12);
    }

    private static void lacks() {
        KIT.quote("How many bags a WALL lacks so that it holds the greatest RIVER from now on (no more RAIN); 0: none; "
            + "NONE: it was QUIT, no such one.");
        String street = "wall w 2;gauge 3 4;";
        int[][] due = {{0, 20}, {1, 19}, {18, 2}, {19, 1}, {20, 0}, {21, 0}, {400, 0}};
        for (int[] d : due) {
            KIT.same("of " + d[0], laid(street, d[0], 0).lacks(0), d[1]);
        }
        KIT.same("no gauge", Kit.on("wall w 2;").lacks(0), 0);
        KIT.same("gauge of 0", Kit.on("wall w 2;gauge 5 0;").lacks(0), 0);
        KIT.same("sixty inches", Kit.on("wall w 20;gauge 47 60;").lacks(0), 36600);
        KIT.same("DRAINS left out", Kit.on("wall w 2;drain d w 0 9;gauge 3 4;").lacks(0), 20);
        BagsRiver x = Kit.on("wall v 1;wall w 2;gauge 3 4;");
        x.quit(0);
        KIT.same("it was QUIT", x.lacks(0), -1);
        KIT.same("another one was not", x.lacks(1), 20);
        for (int bad : new int[] {-1, 2, 4, 5, LEAST, MOST}) {
            KIT.same("lacks(" + bad + ")", x.lacks(bad), -1);
        }
        KIT.same("no WALLS", new BagsRiver().lacks(0), -1);
    }

    private static void lacksFromNowOn() {
        KIT.quote("the greatest RIVER from now on (no more RAIN)");
        BagsRiver x = Kit.on("wall w 1;gauge 0 5;gauge 1 3;gauge 4 4;gauge 5 2;gauge 47 1;");
        int[] greatest = {5, 4, 4, 4, 4, 2, 2};
        for (int hour = 0; hour < greatest.length; hour++) {
            KIT.same("lacks in " + hour, x.lacks(0), x.takes(0, greatest[hour]));
            x.hours(1);
        }
        x.hours(24);
        x.hours(15);
        KIT.same("in 46", x.now(0) * 10 + x.lacks(0), 463);
        x.hours(1);
        KIT.same("in 47", x.now(0) * 10 + x.lacks(0), 471);
        x.hours(1);
        KIT.same("in 48, as now(1) tells it", x.now(0) * 10 + x.lacks(0), 481);
        BagsRiver rain = Kit.on("wall w 1;gauge 0 3;gauge 5 4;");
        rain.drawn(1, RAINY);
        KIT.same("RAIN so far", rain.lacks(0), 15);
    }

    private static void leaks() {
        KIT.quote("DRAINS of a WALL that would leak, if the RIVER was h (0 to 60) inches high, as bits; NONE: no such ones.");
        String street = "wall a 1;wall b 1;drain d a 0 2;drain e b 0 2;drain f a 5 2;drain g a 60 2;";
        BagsRiver x = Kit.on(street);
        for (int h = 0; h <= 60; h++) {
            KIT.same("leaks(0, " + h + ")", x.leaks(0, h), 1 + (h >= 5 ? 4 : 0) + (h >= 60 ? 8 : 0));
            KIT.same("leaks(1, " + h + ")", x.leaks(1, h), 2);
        }
        for (int bad : new int[] {-1, 61, LEAST, MOST}) {
            KIT.same("leaks(0, " + bad + ")", x.leaks(0, bad), -1);
        }
        for (int bad : new int[] {-1, 2, 4, 5, 10, LEAST, MOST}) {
            KIT.same("leaks(" + bad + ", 0)", x.leaks(bad, 0), -1);
        }
        KIT.same("a bag less than it takes", laid(street, 1, 12).leaks(0, 60), 13);
        KIT.same("as many as it takes", laid(street, 2, 12).leaks(0, 60), 9);
        KIT.same("more", laid(street, 3, 12).leaks(0, 60), 9);
        KIT.same("a WALL without DRAINS", Kit.on("wall a 1;").leaks(0, 60), 0);
        KIT.same("no WALLS", new BagsRiver().leaks(0, 0), -1);
        x.quit(0);
        KIT.same("a WALL that was QUIT", x.leaks(0, 4), 1);
    }

    private static void when() {
        KIT.quote("The HOUR in which a HOUSE will be flooded, if nothing else is done (who is POSTED goes on); NONE: it is, "
            + "never, no such one.");
        BagsRiver x = Kit.on("house a outside 9 3;house b outside 9 5;house c outside 9 9;gauge 0 4;gauge 47 6;");
        KIT.same("in this HOUR", x.when(0), 0);
        KIT.same("in the last HOUR", x.when(1), 47);
        KIT.same("never", x.when(2), -1);
        for (int bad : new int[] {-1, 3, 9, 10, LEAST, MOST}) {
            KIT.same("when(" + bad + ")", x.when(bad), -1);
        }
        x.hours(24);
        x.hours(23);
        KIT.same("it is", x.when(0), -1);
        KIT.same("in this HOUR, the last one", x.when(1), 47);
        x.hours(1);
        KIT.same("it is", x.when(1), -1);
        KIT.same("all HOURS are over", x.when(2), -1);
        BagsRiver y = Kit.on("wall w 1;house h w 9 0;gauge 9 3;people 3;rate 1;sand 6;");
        KIT.same("nobody is POSTED", y.when(0), 9);
        y.post(2, 1, 0);
        KIT.same("who is POSTED goes on", y.when(0), -1);
        y.post(0, 1, 0);
        KIT.same("nobody fills", y.when(0), 9);
        KIT.same("the HOUR stays", y.now(0), 0);
        BagsRiver over = Kit.on("house h outside 9 5;gauge 0 5;");
        over.hours(24);
        over.hours(24);
        KIT.same("never, at the end", over.when(0), -1);
        KIT.same("no HOUSES", new BagsRiver().when(0), -1);
    }

    private static void last() {
        KIT.quote("SAVED behind HOUR 47, if nothing else is done (who is POSTED goes on).");
        BagsRiver x = Kit.on("house a outside 9 3;house b outside 7 5;gauge 47 4;");
        KIT.same("flooded in 47", x.last(), 7);
        x.up(0);
        KIT.same("UP", x.last(), 7 + 4);
        x.hours(24);
        x.hours(24);
        KIT.same("all HOURS are over", x.last(), 7 + 4);
        BagsRiver y = Kit.on("wall w 1;house h w 9 0;gauge 9 3;people 3;rate 1;sand 6;");
        KIT.same("nobody is POSTED", y.last(), 0);
        y.post(2, 1, 0);
        KIT.same("who is POSTED goes on", y.last(), 9);
        KIT.same("the HOUR stays", y.now(0), 0);
        KIT.same("no HOUSES", new BagsRiver().last(), 0);
        BagsRiver rain = Kit.on("house a outside 9 3;gauge 9 3;");
        KIT.same("no RAIN", rain.last(), 9);
        rain.drawn(1, RAINY);
        KIT.same("RAIN so far", rain.last(), 0);
    }
}
