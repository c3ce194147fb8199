import java.math.BigInteger;

/** Each sentence of the document that names a boundary of what is reckoned: its part 3, promises 18 to 25, 29 to 34. */
public final class ReckonBoundariesTest {
    private static final Kit KIT = new Kit();
    private static final int THROWS = Kit.THROWS;
    private static final int LEAST = Integer.MIN_VALUE;
    private static final int MOST = Integer.MAX_VALUE;

    public static void main(String[] args) {
        planBagsAtMost();
        planAsIfItHadNone();
        planCrestsOrZero();
        planByTheFloor();
        planByOdds();
        planTheFewestBags();
        planTheLeastInches();
        planOfEmptyStreets();
        planOfFullStreets();
        planBehindAnother();
        planThrows();
        planAtNoSuchOne();
        sureAtMost();
        sureAtLeast();
        sureThrows();
        crewHours();
        crewNotAsTold();
        crewMostBags();
        crewOfLikeOnes();
        crewWhereTheyAreCarried();
        crewedWhat();
        gameBagsAsManyAsItTakes();
        gameNineSaveIt();
        gameGreatestCrest();
        gameNoneTold();
        gameOfNobody();
        gameOfTen();
        gameNoSuchOnes();
        wallingMostSaved();
        dueCut();
        dueGreatestRest();
        dueNoSuchOnes();
        carpetsOfN();
        carpetsThatWouldBeFlooded();
        carpetsHalfCut();
        carpetsOfLikeOnes();
        carpetsNotAsTold();
        builtLeastAndMost();
        builtNotAsTold();
        mostAheadOfAny();
        drawnWrapsAround();
        drawnRainAheadOfTheHour();
        drawnNotAsTold();
        oddsOfSeeds();
        oddsOf24Hours();
        oddsNoSuchOnes();
        fractions();
        KIT.finish();
    }

    private static void plan(BagsRiver x, int b, int above, int below, int... heights) {
        KIT.same("plan(" + b + ", 0)", Kit.caught(() -> x.plan(b, 0)), above);
        KIT.same("plan(" + b + ", 1)", Kit.caught(() -> x.plan(b, 1)), below);
        for (int w = 0; w < heights.length; w++) {
            KIT.same("planAt(" + w + ") of " + b, x.planAt(w), heights[w]);
        }
    }

    private static void planBagsAtMost() {
        KIT.quote("all bags together b at most");
        BagsRiver x = Kit.on("wall v 1;wall w 3;house h v 9 0;house g w 8 0;crest 4 1;");
        plan(x, 0, 0, 1, 0, 0);
        plan(x, 9, 0, 1, 0, 0);
        plan(x, 10, 9, 1, 4, 0);
        plan(x, 29, 9, 1, 4, 0);
        plan(x, 30, 9, 1, 4, 0);
        plan(x, 39, 9, 1, 4, 0);
        plan(x, 40, 17, 1, 4, 4);
        plan(x, 41, 17, 1, 4, 4);
        plan(x, 999, 17, 1, 4, 4);
        BagsRiver y = Kit.on("wall w 1;house g w 8 0;crest 44 1;crest 45 1;");
        plan(y, 989, 0, 1, 0);
        plan(y, 990, 4, 1, 44);
        plan(y, 999, 4, 1, 44);
    }

    private static void planAsIfItHadNone() {
        KIT.quote("PLAN of b bags: to each WALL (as if it had none)");
        BagsRiver x = Kit.on("wall w 1;house h w 9 0;crest 4 1;gauge 1 1;people 9;rate 9;");
        x.post(4, 2, 0);
        x.hours(1);
        KIT.same("bags lie there", x.wall(0, 1), 18);
        plan(x, 9, 0, 1, 0);
        plan(x, 10, 9, 1, 4);
        x.quit(0);
        plan(x, 10, 9, 1, 4);
        x.hours(1);
        KIT.same("the HOUSE is flooded", x.now(6), 1);
        plan(x, 10, 9, 1, 4);
    }

    private static void planCrestsOrZero() {
        KIT.quote("as high as one of the crests, or 0");
        BagsRiver x = Kit.on("wall w 1;house h w 9 0;crest 3 1;crest 9 1;");
        plan(x, 5, 0, 1, 0);
        plan(x, 6, 9, 2, 3);
        plan(x, 44, 9, 2, 3);
        plan(x, 45, 9, 1, 9);
        plan(x, 999, 9, 1, 9);
        plan(Kit.on("wall w 1;house h w 9 0;crest 0 1;"), 99, 9, 1, 0);
        plan(Kit.on("wall w 1;house h w 9 0;crest 0 1;crest 1 1;"), 0, 9, 2, 0);
        plan(Kit.on("wall w 1;house h w 9 0;crest 0 1;crest 1 1;"), 1, 9, 1, 1);
        plan(Kit.on("wall w 1;house h w 9 0;crest 60 1;"), 999, 0, 1, 0);
    }

    private static void planByTheFloor() {
        KIT.quote("(DRAINS left out; outside: by the FLOOR alone)");
        plan(Kit.on("house h outside 9 4;crest 3 1;"), 9, 9, 1);
        plan(Kit.on("house h outside 9 4;crest 4 1;"), 9, 9, 1);
        plan(Kit.on("house h outside 9 4;crest 5 1;"), 9, 0, 1);
        plan(Kit.on("wall w 1;house h w 9 4;crest 4 1;"), 99, 9, 1, 0);
        plan(Kit.on("wall w 1;house h w 9 4;crest 5 1;"), 99, 9, 1, 5);
        plan(Kit.on("wall w 1;house h w 9 4;crest 5 1;"), 14, 0, 1, 0);
        plan(Kit.on("wall w 1;house h w 9 4;drain d w 0 40;crest 5 1;"), 15, 9, 1, 5);
        plan(Kit.on("wall w 1;house h outside 9 4;crest 5 1;"), 999, 0, 1, 0);
    }

    private static void planByOdds() {
        KIT.quote("the WORTH of HOUSES that are not flooded by the crest is the most in the mean, by ODDS");
        BagsRiver x = Kit.on("wall v 1;wall w 1;house h v 10 0;house g w 10 2;crest 3 98;crest 2 1;crest 4 1;");
        plan(x, 3, 1, 5, 2, 0);
        plan(x, 6, 10, 1, 3, 0);
        BagsRiver y = Kit.on("wall v 1;wall w 1;house h v 10 0;house g w 11 2;crest 3 98;crest 2 1;crest 4 1;");
        plan(y, 5, 21, 100, 2, 0);
        plan(y, 6, 1089, 100, 0, 3);
        plan(Kit.on("house h outside 7 5;crest 5 99;crest 6 1;"), 0, 693, 100);
    }

    private static void planTheFewestBags() {
        KIT.quote("of like ones the fewest bags; then the first: WALL by WALL the least inches");
        plan(Kit.on("wall v 2;wall w 1;house h v 9 0;house g w 9 0;crest 4 1;"), 20, 9, 1, 0, 4);
        plan(Kit.on("wall v 1;wall w 2;house h v 9 0;house g w 9 0;crest 4 1;"), 20, 9, 1, 4, 0);
        plan(Kit.on("wall v 1;house h outside 9 9;crest 4 1;"), 999, 9, 1, 0);
        plan(Kit.on("wall v 1;house h v 9 4;crest 4 1;crest 3 1;"), 999, 9, 1, 0);
        plan(Kit.on("wall v 1;crest 4 1;"), 999, 0, 1, 0);
        plan(Kit.on("wall v 1;house h v 9 8;house g v 9 3;crest 4 1;crest 8 1;"), 999, 18, 1, 8);
    }

    private static void planTheLeastInches() {
        KIT.quote("then the first: WALL by WALL the least inches");
        plan(Kit.on("wall v 1;wall w 1;house h v 9 0;house g w 9 0;crest 4 1;"), 10, 9, 1, 0, 4);
        plan(Kit.on("wall u 1;wall v 1;wall w 1;house f u 9 0;house h v 9 0;house g w 9 0;crest 4 1;"), 20, 18, 1, 0, 4, 4);
        plan(Kit.on("wall u 1;wall v 1;wall w 1;house f u 9 0;house h v 9 0;house g w 9 0;crest 4 1;"), 10, 9, 1, 0, 0, 4);
        plan(Kit.on("wall u 1;wall v 1;house f u 9 0;house h v 9 0;crest 1 1;crest 2 1;"), 3, 9, 1, 1, 1);
        plan(Kit.on("wall u 1;wall v 1;house f u 9 0;house h v 9 0;crest 2 1;crest 1 1;"), 4, 27, 2, 1, 2);
    }

    private static void planOfEmptyStreets() {
        KIT.quote("PLAN of b (0 to 999) bags: the WORTH in the mean. NoSuchElementException: no such ones, no crests.");
        plan(Kit.on("crest 5 1;"), 0, 0, 1);
        plan(Kit.on("crest 5 1;"), 999, 0, 1);
        KIT.same("no WALLS", Kit.on("crest 5 1;").planAt(0), -1);
        plan(Kit.on("wall w 1;crest 5 1;"), 999, 0, 1, 0);
        plan(new BagsRiver(), 0, THROWS, THROWS);
        plan(Kit.on("wall w 1;house h w 9 0;"), 0, THROWS, THROWS);
    }

    private static void planOfFullStreets() {
        KIT.quote("PLAN of b (0 to 999) bags: the WORTH in the mean.");
        BagsRiver x = Kit.on("wall a 20;wall b 1;wall c 1;wall d 1;wall e 1;house f b 99 0;house g c 99 0;house h d 99 0;"
            + "house i e 99 0;house j a 99 0;house k outside 99 60;house l outside 99 60;house m outside 99 60;"
            + "house n outside 99 60;house o outside 99 60;crest 60 99;crest 44 99;crest 3 99;crest 2 99;crest 1 99;crest 0 99;");
        plan(x, 144, 825, 1, 3, 3, 3, 3, 3);
        plan(x, 999, 825, 1, 3, 3, 3, 3, 3);
        KIT.same("no WALL 5", x.planAt(5), -1);
        String six = "crest 1 1;crest 2 1;crest 3 1;crest 4 1;crest 5 1;crest 6 1;";
        BagsRiver y = Kit.on("wall w 1;house h w 6 0;house g w 60 5;" + six);
        int[][] due = {{0, 50, 0}, {1, 51, 1}, {2, 51, 1}, {3, 52, 2}, {6, 53, 3}, {10, 54, 4}, {15, 55, 5}, {20, 55, 5}, {21, 66, 6}};
        for (int[] d : due) {
            plan(y, d[0], d[1], 1, d[2]);
        }
        BagsRiver walls = Kit.on("wall a 1;wall b 1;wall c 1;wall d 1;wall e 1;house h e 6 0;house g a 6 0;" + six);
        plan(walls, 42, 12, 1, 6, 0, 0, 0, 6);
        plan(walls, 41, 11, 1, 5, 0, 0, 0, 6);
    }

    private static void planBehindAnother() {
        KIT.quote("How high a WALL is by the latest plan()");
        BagsRiver x = Kit.on("wall a 1;wall b 1;wall c 1;house h c 6 0;house g b 6 0;crest 1 1;crest 2 1;crest 3 1;");
        plan(x, 999, 12, 1, 0, 3, 3);
        Kit.street(x, "wall z 1;house h z 9 0;crest 4 1;");
        plan(x, 10, 9, 1, 4);
        KIT.same("no other WALL", x.planAt(1), -1);
        plan(x, 9, 0, 1, 0);
        Kit.street(x, "wall y 1;wall z 1;house h z 9 0;crest 2 1;");
        plan(x, 3, 9, 1, 0, 2);
        KIT.same("no other WALL", x.planAt(2), -1);
    }

    private static void planThrows() {
        KIT.quote("A call that throws changes nothing.");
        int[][] wrong = {{-1, 0}, {1000, 0}, {LEAST, 0}, {MOST, 0}, {5, -1}, {5, 2}, {5, LEAST}, {5, MOST}, {-1, 2}, {1000, -1}};
        for (int[] w : wrong) {
            String call = "plan(" + w[0] + ", " + w[1] + ")";
            KIT.leavesAll(call, x -> {
                Kit.street(x, Kit.STREET);
                x.plan(165, 0);
                x.hours(2);
            }, x -> KIT.same(call, Kit.caught(() -> x.plan(w[0], w[1])), THROWS));
        }
        KIT.leavesAll("no crests", x -> {
            Kit.street(x, Kit.STREET);
            x.plan(165, 0);
            Kit.street(x, "wall a 1;wall b 1;");
        }, x -> KIT.same("no crests", Kit.caught(() -> x.plan(5, 0)), THROWS));
        BagsRiver y = Kit.on(Kit.STREET);
        KIT.same("throws", Kit.caught(() -> y.plan(1000, 0)), THROWS);
        KIT.same("ahead of any", y.planAt(0), -1);
    }

    private static void planAtNoSuchOne() {
        KIT.quote("How high a WALL is by the latest plan(); NONE: no such one, or ahead of any.");
        BagsRiver x = Kit.on(Kit.STREET);
        KIT.same("ahead of any", x.planAt(0), -1);
        x.plan(165, 1);
        KIT.same("WALL 0", x.planAt(0), 10);
        KIT.same("WALL 1", x.planAt(1), 10);
        for (int bad : new int[] {-1, 2, 3, 4, 5, LEAST, MOST}) {
            KIT.same("planAt(" + bad + ")", x.planAt(bad), -1);
        }
        x.plan(36, 0);
        KIT.same("the latest", x.planAt(0) * 100 + x.planAt(1), 800);
        x.hours(9);
        x.undo();
        KIT.same("the latest stays", x.planAt(0) * 100 + x.planAt(1), 800);
    }

    private static void sure(BagsRiver x, int h, int l, int above, int below) {
        KIT.same("sure(" + h + ", " + l + ", 0)", Kit.caught(() -> x.sure(h, l, 0)), above);
        KIT.same("sure(" + h + ", " + l + ", 1)", Kit.caught(() -> x.sure(h, l, 1)), below);
    }

    private static void sureAtMost() {
        KIT.quote("SURE: how likely the crest is an INCH at most");
        BagsRiver x = Kit.on("crest 20 3;crest 0 2;crest 60 4;crest 40 1;");
        sure(x, 0, 0, 1, 5);
        sure(x, 1, 0, 1, 5);
        sure(x, 19, 0, 1, 5);
        sure(x, 20, 0, 1, 2);
        sure(x, 21, 0, 1, 2);
        sure(x, 39, 0, 1, 2);
        sure(x, 40, 0, 3, 5);
        sure(x, 59, 0, 3, 5);
        sure(x, 60, 0, 1, 1);
        sure(Kit.on("crest 7 3;"), 6, 0, 0, 1);
        sure(Kit.on("crest 7 3;"), 7, 0, 1, 1);
    }

    private static void sureAtLeast() {
        KIT.quote("if it is another one at least (already there)");
        BagsRiver x = Kit.on("crest 20 3;crest 0 2;crest 60 4;crest 40 1;");
        sure(x, 20, 1, 3, 8);
        sure(x, 20, 20, 3, 8);
        sure(x, 20, 21, 0, 1);
        sure(x, 40, 21, 1, 5);
        sure(x, 40, 40, 1, 5);
        sure(x, 40, 41, 0, 1);
        sure(x, 60, 41, 1, 1);
        sure(x, 60, 60, 1, 1);
        sure(x, 59, 60, 0, 1);
        sure(x, 0, 60, 0, 1);
        sure(x, 0, 1, 0, 1);
    }

    private static void sureThrows() {
        KIT.quote("the crest is h (0 to 60) at most, if it is l (0 to 60) at least. NoSuchElementException: no such ones, "
            + "no crest is so high.");
        BagsRiver x = Kit.on("crest 20 3;crest 40 1;");
        sure(x, 40, 40, 1, 1);
        sure(x, 40, 41, THROWS, THROWS);
        sure(x, 60, 60, THROWS, THROWS);
        int[][] wrong = {{61, 0}, {-1, 0}, {0, -1}, {0, 61}, {LEAST, 0}, {MOST, 0}, {0, LEAST}, {0, MOST}, {-1, -1}, {61, 61},
            {MOST, MOST}};
        for (int[] w : wrong) {
            sure(x, w[0], w[1], THROWS, THROWS);
        }
        for (int bad : new int[] {-1, 2, LEAST, MOST}) {
            KIT.same("what " + bad, Kit.caught(() -> x.sure(20, 0, bad)), THROWS);
        }
        sure(new BagsRiver(), 0, 0, THROWS, THROWS);
        KIT.leavesAll("it throws", y -> Kit.street(y, Kit.STREET),
            y -> KIT.same("it throws", Kit.caught(() -> y.sure(5, 13, 0)), THROWS));
    }

    private static void crew(BagsRiver x, int n, int bags, int f, int c) {
        KIT.same("crew(" + n + ")", x.crew(n), bags);
        KIT.same("its F", x.crewed(0), f);
        KIT.same("its C", x.crewed(1), c);
    }

    private static void crewHours() {
        KIT.quote("CREW for n (1 to 6) HOURS: how many bags are carried; NONE: not as told, fewer HOURS are left.");
        BagsRiver x = Kit.on("wall w 1;people 3;rate 1;");
        for (int n = 1; n <= 6; n++) {
            crew(x, n, n, 2, 1);
        }
        x.hours(24);
        x.hours(18);
        KIT.same("six are left", x.now(0), 42);
        crew(x, 6, 6, 2, 1);
        x.hours(1);
        KIT.same("fewer are left", x.crew(6), -1);
        crew(x, 5, 5, 2, 1);
        x.hours(4);
        KIT.same("fewer are left", x.crew(2), -1);
        crew(x, 1, 1, 2, 1);
        x.hours(1);
        KIT.same("all are over", x.crew(1), -1);
        KIT.same("the latest stays", x.crewed(0) * 10 + x.crewed(1), 21);
    }

    private static void crewNotAsTold() {
        KIT.quote("CREW for n (1 to 6) HOURS: how many bags are carried; NONE: not as told, fewer HOURS are left.");
        for (int bad : new int[] {0, 7, -1, LEAST, MOST}) {
            KIT.leavesAll("crew(" + bad + ")", x -> {
                Kit.street(x, Kit.STREET);
                x.crew(2);
            }, x -> KIT.same("crew(" + bad + ")", x.crew(bad), -1));
        }
        BagsRiver x = Kit.on(Kit.STREET);
        KIT.same("crew(7)", x.crew(7), -1);
        KIT.same("ahead of any", x.crewed(0), -1);
        BagsRiver y = Kit.on("wall w 1;");
        y.hours(24);
        y.hours(23);
        KIT.same("fewer are left", y.crew(2), -1);
        KIT.same("ahead of any", y.crewed(1), -1);
    }

    private static void crewMostBags() {
        KIT.quote("CREW for n HOURS: F and C, as they stay from now on, so that most bags are carried in these HOURS");
        BagsRiver x = Kit.on("wall w 1;people 2;rate 3;");
        crew(x, 6, 0, 0, 0);
        BagsRiver y = Kit.on("wall w 1;people 3;rate 3;sand 7;");
        crew(y, 1, 3, 2, 1);
        crew(y, 2, 6, 2, 1);
        crew(y, 3, 7, 2, 1);
        y.post(2, 0, 0);
        y.hours(3);
        KIT.same("seven are ready, TIRED by 3", y.now(3) * 10 + y.now(4), 73);
        crew(y, 1, 6, 0, 3);
        crew(y, 2, 7, 0, 3);
        crew(y, 3, 7, 0, 2);
        crew(y, 6, 7, 0, 1);
        KIT.same("who is POSTED stays", y.posted(0), 2);
        KIT.same("the HOUR stays", y.now(0), 3);
        KIT.same("what is ready stays", y.now(3), 7);
        KIT.same("TIRED stays", y.now(4), 3);
        BagsRiver later = Kit.on("wall w 1;people 3;rate 3;");
        later.post(2, 1, 0);
        later.hours(2);
        KIT.same("carried so far", later.now(9), 6);
        crew(later, 1, 2, 2, 1);
        BagsRiver most = Kit.on("wall w 1;people 60;rate 20;sand 999;");
        crew(most, 1, 400, 40, 20);
        crew(most, 2, 800, 40, 20);
        crew(most, 3, 999, 34, 17);
    }

    private static void crewOfLikeOnes() {
        KIT.quote("of like ones the least F, then the least C");
        BagsRiver x = Kit.on("wall w 1;people 9;rate 5;sand 3;");
        crew(x, 1, 3, 2, 1);
        BagsRiver none = Kit.on("wall w 1;people 9;rate 5;sand 0;");
        crew(none, 6, 0, 0, 0);
        BagsRiver two = Kit.on("wall w 1;people 20;rate 5;sand 10;");
        crew(two, 1, 10, 4, 2);
        crew(two, 2, 10, 2, 1);
        BagsRiver eleven = Kit.on("wall w 1;people 20;rate 5;sand 11;");
        crew(eleven, 1, 11, 6, 3);
        crew(eleven, 2, 11, 4, 2);
        crew(eleven, 3, 11, 2, 1);
    }

    private static void crewWhereTheyAreCarried() {
        KIT.quote("(to where they are carried now, DRAINS and WALLS alike, the river left out)");
        BagsRiver x = Kit.on("wall v 1;wall w 1;drain d v 0 1;house h w 9 0;gauge 0 60;people 3;rate 5;");
        x.post(0, 0, 10);
        crew(x, 2, 10, 2, 1);
        x.quit(0);
        crew(x, 2, 10, 2, 1);
        x.post(0, 0, 0);
        crew(x, 2, 0, 0, 0);
        x.post(0, 0, 1);
        crew(x, 2, 10, 2, 1);
        x.quit(1);
        crew(x, 2, 0, 0, 0);
        KIT.same("the HOUSE is not flooded by it", x.now(6), 0);
        BagsRiver none = new BagsRiver();
        crew(none, 1, 0, 0, 0);
    }

    private static void crewedWhat() {
        KIT.quote("0 its F, 1 its C, by the latest crew() that was not NONE. NONE for another what, or ahead of any.");
        BagsRiver x = Kit.on(Kit.STREET);
        KIT.same("ahead of any", x.crewed(0), -1);
        KIT.same("ahead of any", x.crewed(1), -1);
        crew(x, 1, 20, 8, 4);
        for (int bad : new int[] {-1, 2, LEAST, MOST}) {
            KIT.same("crewed(" + bad + ")", x.crewed(bad), -1);
        }
        x.quit(0);
        crew(x, 1, 0, 0, 0);
    }

    private static void game(BagsRiver x, int w, int b, int rests, int walling) {
        KIT.same("rests(" + w + ", " + b + ")", x.rests(w, b), rests);
        KIT.same("walling() of " + b, x.walling(), walling);
    }

    /** Three HOUSES behind a WALL of ten bags. */
    private static final String THREE = "wall w 1;house p outside 1 1;house q w 5 0;house r w 4 0;house s w 3 0;crest 4 1;";

    private static void gameBagsAsManyAsItTakes() {
        KIT.quote("The WALL holds, if bags of all that go to it are as many as its greatest crest takes (none told: 0).");
        game(Kit.on(THREE), 0, 3, 8, 0);
        game(Kit.on(THREE), 0, 4, 1 + 3 + 1, 14);
        game(Kit.on(THREE), 0, 5, 1 + 3 + 1, 6);
        game(Kit.on(THREE), 0, 8, 5, 6);
        game(Kit.on(THREE), 0, 9, 1 + 3 + 1, 0);
        game(Kit.on(THREE), 0, 10, 8, 0);
        game(Kit.on(THREE), 0, 999, 8, 0);
    }

    private static void gameNineSaveIt() {
        KIT.quote("or to one's own door (9 save it)");
        String high = THREE + "crest 60 1;";
        game(Kit.on(high), 0, 8, 8, 0);
        game(Kit.on(high), 0, 9, 1, 0);
        game(Kit.on(high), 0, 10, 1, 0);
        game(Kit.on(high), 0, 609, 1, 0);
        game(Kit.on(high), 0, 610, 1 + 1, 0);
        game(Kit.on(high), 0, 914, 1 + 1, 0);
        game(Kit.on(high), 0, 915, 1 + 3 + 1, 0);
        game(Kit.on(high), 0, 999, 5, 0);
    }

    private static void gameGreatestCrest() {
        KIT.quote("as many as its greatest crest takes (none told: 0)");
        game(Kit.on(THREE + "crest 3 99;crest 0 99;"), 0, 5, 5, 6);
        game(Kit.on("crest 0 99;crest 3 99;" + THREE), 0, 5, 5, 6);
        game(Kit.on(THREE + "crest 5 1;"), 0, 5, 1 + 1 + 3, 14);
        game(Kit.on("wall w 20;house h w 9 0;crest 2 1;"), 0, 59, 1, 0);
        game(Kit.on("wall w 20;house h w 9 0;crest 2 1;"), 0, 60, 2, 0);
        game(Kit.on("wall w 20;house h w 9 0;crest 0 1;"), 0, 0, 2, 0);
    }

    private static void gameNoneTold() {
        KIT.quote("as many as its greatest crest takes (none told: 0)");
        game(Kit.on("wall w 20;house h w 9 0;house g w 9 0;"), 0, 0, 4, 0);
        game(Kit.on("wall w 20;house h w 9 0;house g w 9 0;"), 0, 999, 4, 0);
    }

    private static void gameOfNobody() {
        KIT.quote("GAME at a WALL with b bags for each HOUSE behind it");
        game(Kit.on("wall w 1;"), 0, 0, 1, 0);
        game(Kit.on("wall w 1;house p outside 1 1;crest 5 1;"), 0, 999, 1, 0);
        game(Kit.on("wall v 1;wall w 1;house p v 1 1;crest 5 1;"), 1, 5, 1, 0);
        game(Kit.on("wall v 1;wall w 1;house p v 1 1;house q w 1 1;house r w 1 1;crest 4 1;"), 1, 5, 2, 6);
    }

    private static void gameOfTen() {
        KIT.quote("One who has the house saved has its WORTH. REST: nobody would have more by doing the other thing alone.");
        StringBuilder street = new StringBuilder("wall w 1;crest 4 1;");
        for (char c = 'a'; c <= 'j'; c++) {
            street.append("house ").append(c).append(" w 1 0;");
        }
        BagsRiver x = Kit.on(street.toString());
        game(x, 0, 0, 1024, 0);
        game(x, 0, 1, 1 + 10 + 45 + 120 + 210 + 252 + 210 + 120 + 45 + 1, 1023);
        game(x, 0, 2, 1024 - 210, 31);
        game(x, 0, 5, 1024 - 10, 3);
        game(x, 0, 9, 1024 - 10, 0);
        game(x, 0, 10, 1024, 0);
    }

    private static void gameNoSuchOnes() {
        KIT.quote("GAME at a WALL with b (0 to 999) bags each: how many RESTS; NONE: no such ones.");
        int[][] wrong = {{-1, 5}, {2, 5}, {4, 5}, {5, 5}, {LEAST, 5}, {MOST, 5}, {0, -1}, {0, 1000}, {0, LEAST}, {0, MOST}, {2, 1000}};
        for (int[] w : wrong) {
            String call = "rests(" + w[0] + ", " + w[1] + ")";
            KIT.leavesAll(call, x -> {
                Kit.street(x, Kit.STREET.replace("house hut outside", "house hut left"));
                x.rests(0, 39);
            }, x -> KIT.same(call, x.rests(w[0], w[1]), -1));
        }
        BagsRiver x = Kit.on(Kit.STREET);
        KIT.same("no such ones", x.rests(0, 1000), -1);
        KIT.same("ahead of any", x.walling(), -1);
        KIT.same("no WALLS", new BagsRiver().rests(0, 0), -1);
    }

    private static void wallingMostSaved() {
        KIT.quote("Of the REST by which most is SAVED (of like ones the least as bits): HOUSES whose bags go to the WALL, "
            + "as bits, by the latest rests() above 0; NONE ahead of any.");
        BagsRiver x = Kit.on(THREE);
        KIT.same("ahead of any", x.walling(), -1);
        game(x, 0, 4, 5, 14);
        game(x, 0, 5, 5, 6);
        KIT.same("no such ones", x.rests(1, 5), -1);
        KIT.same("the latest above 0", x.walling(), 6);
        game(x, 0, 9, 5, 0);
        BagsRiver y = Kit.on("wall v 1;wall w 1;house p v 9 0;house q w 1 0;house r v 9 0;house s w 99 0;house t w 1 0;crest 4 1;");
        game(y, 1, 5, 5, 2 + 8);
        game(y, 0, 5, 2, 1 + 4);
    }

    private static void dueCut() {
        KIT.quote("DUE: reward w to all HOUSES outside by their WORTH: w by WORTH by all of these (cut)");
        BagsRiver x = Kit.on("wall w 1;house a outside 1 0;house b w 99 0;house c outside 2 0;house d outside 3 0;");
        int[][] shares = {{0, 0, 0}, {0, 0, 1}, {0, 1, 1}, {1, 1, 1}, {1, 1, 2}, {1, 2, 2}, {1, 2, 3}, {1, 2, 4}};
        for (int w = 0; w < shares.length; w++) {
            KIT.same("due(0, " + w + ")", x.due(0, w), shares[w][0]);
            KIT.same("due(2, " + w + ")", x.due(2, w), shares[w][1]);
            KIT.same("due(3, " + w + ")", x.due(3, w), shares[w][2]);
        }
        KIT.same("all of it", x.due(0, 999) + x.due(2, 999) + x.due(3, 999), 999);
        KIT.same("alone", Kit.on("house a outside 1 0;").due(0, 999), 999);
        KIT.same("alone", Kit.on("house a outside 99 0;").due(0, 1), 1);
        KIT.same("alone", Kit.on("house a outside 99 0;").due(0, 0), 0);
    }

    private static void dueGreatestRest() {
        KIT.quote("what is left 1 by 1 to those with the greatest rest (of like ones the first), each once");
        StringBuilder street = new StringBuilder();
        for (char c = 'a'; c <= 'j'; c++) {
            street.append("house ").append(c).append(" outside 7 0;");
        }
        BagsRiver like = Kit.on(street.toString());
        for (int w = 0; w <= 25; w++) {
            for (int h = 0; h < 10; h++) {
                KIT.same("due(" + h + ", " + w + ")", like.due(h, w), w / 10 + (h < w % 10 ? 1 : 0));
            }
        }
        BagsRiver x = Kit.on("house a outside 2 0;house b outside 3 0;house c outside 3 0;house d outside 1 0;");
        KIT.all("5 of 9 by 7: 14, 21, 21, 7", new int[] {x.due(0, 7), x.due(1, 7), x.due(2, 7), x.due(3, 7)}, 2, 2, 2, 1);
        KIT.all("one left: 4, 6, 6, 2", new int[] {x.due(0, 2), x.due(1, 2), x.due(2, 2), x.due(3, 2)}, 0, 1, 1, 0);
        KIT.all("one: 2, 3, 3, 1", new int[] {x.due(0, 1), x.due(1, 1), x.due(2, 1), x.due(3, 1)}, 0, 1, 0, 0);
    }

    private static void dueNoSuchOnes() {
        KIT.quote("DUE: how much of w (0 to 999) a HOUSE has; NONE: it is not outside, no such ones.");
        BagsRiver x = Kit.on(Kit.STREET);
        KIT.same("not outside", x.due(0, 10), -1);
        KIT.same("not outside, nothing", x.due(2, 0), -1);
        KIT.same("the first outside", x.due(3, 0), 0);
        KIT.same("the last", x.due(4, 999), 333);
        for (int bad : new int[] {-1, 5, 9, 10, LEAST, MOST}) {
            KIT.same("due(" + bad + ", 1)", x.due(bad, 1), -1);
        }
        for (int bad : new int[] {-1, 1000, LEAST, MOST}) {
            KIT.same("due(3, " + bad + ")", x.due(3, bad), -1);
        }
        KIT.same("no HOUSES", new BagsRiver().due(0, 1), -1);
        KIT.same("none outside", Kit.on("wall w 1;house h w 1 1;").due(0, 1), -1);
    }

    private static void carpets(BagsRiver x, int n, int worth, int bits) {
        KIT.same("carpets(" + n + ")", x.carpets(n), worth);
        KIT.same("carried() of " + n, x.carried(), bits);
    }

    private static void carpetsOfN() {
        KIT.quote("CARPETS of n (0 to 10) HOUSES: WORTH; NONE: not as told.");
        StringBuilder street = new StringBuilder("crest 1 1;");
        for (int i = 0; i < 10; i++) {
            street.append("house ").append((char) ('a' + i)).append(" outside ").append(2 + 2 * i).append(" 0;");
        }
        BagsRiver x = Kit.on(street.toString());
        int worth = 0;
        int bits = 0;
        for (int n = 0; n <= 10; n++) {
            carpets(x, n, worth, bits);
            worth += 10 - n;
            bits |= 1 << 9 - n & 1023;
        }
        KIT.same("eleven", x.carpets(11), -1);
        KIT.same("the latest stays", x.carried(), 1023);
    }

    private static void carpetsThatWouldBeFlooded() {
        KIT.quote("CARPETS of n HOUSES: n of those that are not flooded, not UP, and would be by the greatest crest (FLOOR alone)");
        String street = "wall w 1;house a w 40 4;house b outside 30 5;house c w 20 6;house d outside 10 0;";
        carpets(Kit.on(street + "crest 5 1;"), 10, 20 + 5, 1 + 8);
        carpets(Kit.on(street + "crest 6 1;crest 5 9;"), 10, 20 + 15 + 5, 1 + 2 + 8);
        carpets(Kit.on(street + "crest 0 1;"), 10, 0, 0);
        carpets(Kit.on(street + "crest 1 1;"), 10, 5, 8);
        carpets(Kit.on(street), 10, 0, 0);
        carpets(new BagsRiver(), 10, 0, 0);
        BagsRiver x = Kit.on(street + "crest 60 1;gauge 0 1;");
        x.up(0);
        carpets(x, 10, 15 + 10 + 5, 14);
        x.hours(1);
        carpets(x, 10, 15 + 10, 6);
        carpets(x, 1, 15, 2);
    }

    private static void carpetsHalfCut() {
        KIT.quote("so that half of their WORTH (cut each) is the most in all");
        String street = "house a outside 3 0;house b outside 3 0;house c outside 2 0;house d outside 1 0;house e outside 99 0;crest 1 1;";
        carpets(Kit.on(street), 1, 49, 16);
        carpets(Kit.on(street), 2, 50, 17);
        carpets(Kit.on(street), 3, 51, 19);
        carpets(Kit.on(street), 4, 52, 23);
        carpets(Kit.on(street), 5, 52, 31);
        carpets(Kit.on(street), 6, 52, 31);
        carpets(Kit.on("house d outside 1 0;crest 1 1;"), 1, 0, 1);
    }

    private static void carpetsOfLikeOnes() {
        KIT.quote("of like ones the least as bits (fewer, if there are fewer)");
        String street = "house a outside 2 0;house b outside 5 0;house c outside 4 0;house d outside 5 0;crest 1 1;";
        carpets(Kit.on(street), 1, 2, 2);
        carpets(Kit.on(street), 2, 4, 6);
        carpets(Kit.on(street), 3, 6, 14);
        carpets(Kit.on(street), 4, 7, 15);
        carpets(Kit.on(street), 10, 7, 15);
        carpets(Kit.on(street), 0, 0, 0);
    }

    private static void carpetsNotAsTold() {
        KIT.quote("Which, as bits, by the latest carpets() that was not NONE; NONE ahead of any.");
        for (int bad : new int[] {-1, 11, LEAST, MOST}) {
            KIT.leavesAll("carpets(" + bad + ")", x -> {
                Kit.street(x, Kit.STREET);
                x.carpets(2);
            }, x -> KIT.same("carpets(" + bad + ")", x.carpets(bad), -1));
        }
        BagsRiver x = Kit.on(Kit.STREET);
        KIT.same("not as told", x.carpets(11), -1);
        KIT.same("ahead of any", x.carried(), -1);
        carpets(x, 0, 0, 0);
    }

    private static void built(BagsRiver x, int least, int most, int... bytes) {
        Kit.bytes(x, bytes);
        KIT.same("built()", x.built(), least);
        KIT.same("most()", x.most(), most);
        KIT.same("the tape", x.count(6), 0);
    }

    private static void builtLeastAndMost() {
        KIT.quote("BUILT by the tape (a byte for each WALL: how high it stood): the least and the most bags that all WALLS "
            + "can have taken.");
        BagsRiver x = Kit.on("wall w 1;");
        built(x, 0, 0, 0);
        built(x, 1, 2, 1);
        built(x, 3, 5, 2);
        built(x, 1830, 1890, 60);
        BagsRiver y = Kit.on("wall a 20;wall b 20;wall c 20;wall d 20;wall e 1;");
        built(y, 0, 4 * 19, 0, 0, 0, 0, 0);
        built(y, 20, 59 + 3 * 19, 1, 0, 0, 0, 0);
        built(y, 1, 4 * 19 + 2, 0, 0, 0, 0, 1);
        built(y, 4 * 36600 + 1830, 4 * (37820 - 1) + 1890, 60, 60, 60, 60, 60);
        y.quit(0);
        built(y, 20, 59 + 3 * 19, 1, 0, 0, 0, 0);
    }

    private static void builtNotAsTold() {
        KIT.quote("BUILT: the least bags; NONE: not as told (as many bytes as WALLS, 1 at least, 60 at most each).");
        BagsRiver x = Kit.on("wall a 1;wall b 2;");
        built(x, 1 + 2, 2 + 5, 1, 1);
        built(x, -1, 7);
        built(x, -1, 7, 1);
        built(x, -1, 7, 1, 1, 1);
        built(x, -1, 7, 61, 1);
        built(x, -1, 7, 1, 61);
        built(x, -1, 7, 128, 1);
        built(x, -1, 7, 1, 255);
        built(x, 1830 + 3660, 1890 + 3781, 60, 60);
        KIT.same("20 bytes", x.feed(0, 0, 0, 0, 0), 20);
        KIT.same("not as told", x.built(), -1);
        KIT.same("the tape is empty", x.count(6), 0);
        BagsRiver none = new BagsRiver();
        built(none, -1, -1);
        built(none, -1, -1, 0);
        KIT.leavesAll("not as told", y -> {
            Kit.street(y, "wall a 1;wall b 2;");
            Kit.bytes(y, 3, 4);
            y.built();
        }, y -> built(y, -1, y.most(), 1));
    }

    private static void mostAheadOfAny() {
        KIT.quote("The most, by the latest built() that was not NONE; NONE ahead of any.");
        BagsRiver x = Kit.on("wall a 1;");
        KIT.same("ahead of any", x.most(), -1);
        built(x, -1, -1, 1, 1);
        built(x, 3, 5, 2);
        Kit.street(x, "wall a 9;");
        KIT.same("a new STREET", x.most(), 5);
        built(x, -1, 5, 99);
        built(x, 9, 26, 1);
    }

    /** The document's draws, reckoned with numbers of any length. */
    private static int rains(int seed, int hours) {
        BigInteger size = BigInteger.ONE.shiftLeft(32);
        BigInteger x = BigInteger.valueOf(seed);
        int rains = 0;
        for (int i = 0; i < hours; i++) {
            x = x.multiply(BigInteger.valueOf(1103515245)).add(BigInteger.valueOf(12345)).mod(size);
            rains += x.shiftRight(8).mod(BigInteger.valueOf(6)).signum() == 0 ? 1 : 0;
        }
        return rains;
    }

    private static void drawnWrapsAround() {
        KIT.quote("for each draw of n x becomes x * 1103515245 + 12345 (an int, wrapping), the draw is (x >>> 8) % n");
        int[] seeds = {0, 1, 2, 3, 7, -1, -2, -3, MOST, MOST - 1, MOST - 2, LEAST, LEAST + 1, LEAST + 2, 12345, -12345, 1 << 30,
            -(1 << 30), 65536, -65536};
        for (int seed : seeds) {
            BagsRiver x = Kit.on("gauge 0 3;");
            for (int hours = 1; hours <= 24; hours++) {
                KIT.same("drawn(" + hours + ", " + seed + ")", x.drawn(hours, seed), hours);
                KIT.same("RAIN of " + seed + " in " + hours, x.now(7), rains(seed, hours));
                KIT.same("RIVER", x.now(1), 3 + rains(seed, hours));
                x.undo();
            }
        }
        int[][] byHand = {{0, 1, 1}, {0, 2, 2}, {0, 3, 2}, {MOST, 4, 0}, {MOST, 5, 1}, {LEAST, 19, 0}, {LEAST, 20, 1}, {-1, 1, 0},
            {-1, 2, 1}};
        for (int[] d : byHand) {
            BagsRiver x = Kit.on("");
            x.drawn(d[1], d[0]);
            KIT.same("RAIN of " + d[0] + " in " + d[1], x.now(7), d[2]);
        }
    }

    private static void drawnRainAheadOfTheHour() {
        KIT.quote("each HOUR: a draw of 6: 0: it has RAINED once more; then the HOUR");
        BagsRiver x = Kit.on("house h outside 9 3;gauge 0 3;");
        x.drawn(1, 0);
        KIT.same("flooded in this HOUR", x.house(0, 4), 0);
        BagsRiver y = Kit.on("house h outside 9 3;gauge 0 3;");
        y.drawn(2, -1);
        KIT.same("RAIN by the second draw", y.house(0, 4), 1);
        BagsRiver z = Kit.on("house h outside 9 3;gauge 0 3;");
        z.drawn(1, -1);
        KIT.same("no RAIN yet", z.now(7) + z.now(6), 0);
        KIT.same("each call begins with its own seed", z.drawn(1, -1) + z.now(7), 1);
        KIT.same("RAIN", z.drawn(1, 0) + z.now(7), 2);
    }

    private static void drawnNotAsTold() {
        KIT.quote("n (1 to 24) HOURS DRAWN by a seed: how many went by; NONE: not as told.");
        for (int bad : new int[] {0, -1, 25, LEAST, MOST}) {
            KIT.leavesAll("drawn(" + bad + ")", x -> Kit.street(x, Kit.STREET),
                x -> KIT.same("drawn(" + bad + ")", x.drawn(bad, 0), -1));
        }
        BagsRiver x = Kit.on("");
        KIT.same("the most", x.drawn(24, 0), 24);
        KIT.same("RAIN of 24", x.now(7), 7);
        KIT.same("the least", x.drawn(1, 5), 1);
        x.hours(22);
        KIT.same("one is left", x.drawn(2, -1), 1);
        KIT.same("no draw for an HOUR that does not go", x.now(7), 7 + rains(5, 1));
        KIT.same("all are over", x.drawn(1, 0), 0);
        KIT.same("no RAIN either", x.now(7), 7 + rains(5, 1));
        KIT.same("not as told", x.drawn(25, 0), -1);
    }

    private static void oddsOfSeeds() {
        KIT.quote("Of n (1 to 30) seeds x, x and 1, .. by how many a HOUSE is flooded behind 24 HOURS DRAWN from now on; "
            + "NONE: no such ones.");
        for (int seed : new int[] {0, -1, -15, MOST, MOST - 1, MOST - 15, MOST - 29, LEAST, 77}) {
            BagsRiver x = Kit.on("house h outside 9 3;gauge 0 0;");
            int floods = 0;
            for (int n = 1; n <= 30; n++) {
                floods += rains(seed + n - 1, 24) > 3 ? 1 : 0;
                KIT.same("odds(0, " + n + ", " + seed + ")", x.odds(0, n, seed), floods);
            }
            KIT.same("the HOUR stays", x.now(0), 0);
            KIT.same("the RAIN stays", x.now(7), 0);
            KIT.same("nothing to undo", x.undo(), -1);
        }
        BagsRiver never = Kit.on("house h outside 9 60;");
        KIT.same("never", never.odds(0, 30, 0), 0);
        BagsRiver always = Kit.on("house h outside 9 0;gauge 0 1;");
        KIT.same("always", always.odds(0, 30, 0), 30);
        KIT.same("always", always.odds(0, 1, 0), 1);
    }

    private static void oddsOf24Hours() {
        KIT.quote("by how many a HOUSE is flooded behind 24 HOURS DRAWN from now on");
        BagsRiver x = Kit.on("house h outside 9 30;gauge 24 60;");
        KIT.same("in the 25th HOUR", x.odds(0, 30, 0), 0);
        x.hours(1);
        KIT.same("in the 24th HOUR", x.odds(0, 30, 0), 30);
        BagsRiver late = Kit.on("house h outside 9 30;gauge 47 60;house g outside 9 60;");
        late.hours(24);
        late.hours(20);
        KIT.same("four are left", late.odds(0, 30, 0), 30);
        KIT.same("RAIN in four", late.odds(1, 30, 0), raining(0, 30, 4));
        late.hours(4);
        KIT.same("it is flooded", late.odds(0, 30, 0), 30);
        KIT.same("all are over", late.odds(1, 30, 0), 0);
        BagsRiver held = Kit.on("wall w 1;house h w 9 0;gauge 1 1;people 3;rate 9;");
        KIT.same("nobody is POSTED", held.odds(0, 9, 0), 9);
        held.post(2, 1, 0);
        KIT.same("who is POSTED goes on", held.odds(0, 9, 0), 0);
    }

    /** Of so many seeds, by how many it RAINS so that the RIVER is above sixty in the last of these HOURS. */
    private static int raining(int seed, int seeds, int hours) {
        int many = 0;
        for (int i = 0; i < seeds; i++) {
            many += rains(seed + i, hours) > 0 ? 1 : 0;
        }
        return many;
    }

    private static void oddsNoSuchOnes() {
        KIT.quote("Of n (1 to 30) seeds x, x and 1, .. by how many a HOUSE is flooded behind 24 HOURS DRAWN from now on; "
            + "NONE: no such ones.");
        int[][] wrong = {{-1, 1}, {5, 1}, {9, 1}, {10, 1}, {LEAST, 1}, {MOST, 1}, {0, 0}, {0, -1}, {0, 31}, {0, LEAST}, {0, MOST},
            {5, 31}};
        for (int[] w : wrong) {
            String call = "odds(" + w[0] + ", " + w[1] + ")";
            KIT.leavesAll(call, x -> Kit.street(x, Kit.STREET), x -> KIT.same(call, x.odds(w[0], w[1], 0), -1));
        }
        KIT.same("no HOUSES", new BagsRiver().odds(0, 1, 0), -1);
        KIT.same("the last HOUSE", Kit.on(Kit.STREET).odds(4, 1, 0), 1);
    }

    private static void fractions() {
        KIT.quote("All fractions are told by two numbers: 0 above, 1 below, in least terms.");
        sure(Kit.on("crest 1 98;crest 2 98;"), 1, 0, 1, 2);
        sure(Kit.on("crest 1 99;crest 2 98;"), 1, 0, 99, 197);
        sure(Kit.on("crest 1 99;crest 2 99;crest 3 99;crest 4 99;crest 5 99;crest 6 99;"), 4, 0, 2, 3);
        sure(Kit.on("crest 1 99;crest 2 99;crest 3 99;crest 4 99;crest 5 99;crest 6 98;"), 5, 0, 495, 593);
        sure(Kit.on("crest 5 99;crest 6 98;"), 4, 0, 0, 1);
        sure(Kit.on("crest 5 99;crest 6 98;"), 6, 0, 1, 1);
        plan(Kit.on("crest 5 99;crest 6 98;"), 0, 0, 1);
        plan(Kit.on("house h outside 99 5;house g outside 99 5;crest 5 99;crest 6 98;"), 0, 2 * 99 * 99, 197);
        plan(Kit.on("house h outside 4 5;crest 5 2;crest 6 4;"), 0, 4, 3);
        plan(Kit.on("house h outside 6 5;crest 5 2;crest 6 4;"), 0, 2, 1);
    }
}
