/** The sentences that had no test of their own yet when the document was read once more, from its first line to its last. */
public final class ReadingTest {
    private static final Kit KIT = new Kit();

    public static void main(String[] args) {
        isTheStreetNow();
        signs();
        saidOfHouses();
        theNextHour();
        theNextHourToTheLast();
        toTheWallOrOnesOwnDoor();
        drawnByASeed();
        KIT.finish();
    }

    private static void isTheStreetNow() {
        KIT.quote("is the STREET now: how many LINES");
        BagsRiver x = Kit.on("wall a 3;wall b 4;house h a 5 6;drain d b 7 8;crest 9 10;gauge 0 12;people 13;sand 14;rate 15;");
        KIT.all("count", new int[] {x.count(0), x.count(1), x.count(2), x.count(3), x.count(4), x.count(5)}, 2, 1, 1, 1, 13, 15);
        KIT.all("the RIVER, sand", new int[] {x.now(1), x.now(2)}, 12, 14);
        KIT.same("another one", Kit.street(x, "wall b 2;"), 1);
        KIT.all("nothing of the one ahead is left", new int[] {x.count(0), x.count(1), x.count(2), x.count(3), x.count(4),
            x.count(5)}, 1, 0, 0, 0, 10, 11);
        KIT.all("the RIVER, sand", new int[] {x.now(1), x.now(2)}, 0, 900);
        KIT.same("WIDE", x.wall(0, 0), 2);
        KIT.same("no HOUSE", Kit.caught(() -> x.house(0, 0)), Kit.THROWS);
        KIT.same("no NAME of the one ahead", Kit.book(x, "quit a;", 0), -7);
        KIT.same("an empty tape", x.street(), 0);
        KIT.same("no WALL", x.wall(0, 0), -1);
    }

    private static int said(BagsRiver x, String sentence) {
        KIT.same("ONES of " + sentence, Kit.sentence(x, sentence), 1);
        return Kit.saidBits(x);
    }

    private static void signs() {
        KIT.quote("SIGN: < = >.");
        String street = "house a outside 1 60;house b outside 98 1;house c outside 99 0;house d outside 50 30;";
        String[] asked = {"worth", "floor", "number"};
        int[][] numbers = {{1, 98, 99, 50}, {60, 1, 0, 30}, {0, 1, 2, 3}};
        for (int i = 0; i < asked.length; i++) {
            for (int n : new int[] {0, 1, 2, 3, 29, 30, 31, 49, 50, 51, 59, 60, 61, 97, 98, 99, 100, 999}) {
                BagsRiver x = Kit.on(street);
                int less = 0;
                int like = 0;
                int more = 0;
                for (int h = 0; h < 4; h++) {
                    less |= numbers[i][h] < n ? 1 << h : 0;
                    like |= numbers[i][h] == n ? 1 << h : 0;
                    more |= numbers[i][h] > n ? 1 << h : 0;
                }
                KIT.same(asked[i] + "<" + n, said(x, asked[i] + "<" + n), less);
                KIT.same(asked[i] + " = " + n, said(x, asked[i] + " = " + n), like);
                KIT.same(asked[i] + "\n>\n" + n, said(x, asked[i] + "\n>\n" + n), more);
            }
        }
        for (String two : new String[] {"<=", ">=", "==", "<>", "= >"}) {
            BagsRiver x = Kit.on(street);
            KIT.same("worth" + two + "5", Kit.sentence(x, "worth" + two + "5"), -1 - 4 - two.length());
            KIT.same("kind", x.fault(), 1);
        }
    }

    private static void saidOfHouses() {
        KIT.quote("It is said of HOUSES.");
        BagsRiver x = Kit.on("wall w 1;drain d w 1 1;house h w 5 6;house g outside 7 8;");
        for (String sentence : new String[] {"safe", "behind w", "outside", "floor>0"}) {
            KIT.yes("of HOUSES alone: " + sentence, (said(x, sentence) & ~3) == 0);
        }
        KIT.same("all of them", said(x, "number<999"), 3);
        KIT.same("how many", x.said(-1), 2);
        KIT.same("the first", x.said(0), 0);
        KIT.same("the last", x.said(1), 1);
        KIT.same("no third", x.said(2), -1);
        BagsRiver none = Kit.on("wall w 1;wall v 1;drain d w 1 1;");
        KIT.same("no HOUSES", said(none, "number<999"), 0);
        KIT.same("there is a SENTENCE, said of none", none.said(-1), 0);
        KIT.same("none such", none.said(0), -1);
    }

    private static void theNextHour() {
        KIT.quote("It is the next HOUR.");
        BagsRiver x = Kit.on("house h outside 5 3;gauge 0 1;gauge 1 4;gauge 2 2;");
        KIT.all("HOUR 0: the RIVER", new int[] {x.now(0), x.now(1), x.now(6)}, 0, 1, 0);
        x.hours(1);
        KIT.all("HOUR 1: the RIVER is above the FLOOR, but the HOUR has not gone", new int[] {x.now(0), x.now(1), x.now(6)}, 1, 4, 0);
        x.hours(1);
        KIT.all("HOUR 2: the RIVER is down, the HOUSE stays flooded", new int[] {x.now(0), x.now(1), x.now(6)}, 2, 2, 1);
        KIT.same("flooded in HOUR 1, which was it then", x.house(0, 4), 1);
        x.drawn(1, -1);
        KIT.same("a DRAWN one", x.now(0), 3);
        KIT.same("by a BOOK", Kit.book(x, "hour 2;hour 1;", 1), -1);
        KIT.same("three more", x.now(0), 6);
    }

    private static void theNextHourToTheLast() {
        KIT.quote("It is the next HOUR.");
        BagsRiver x = Kit.on("house h outside 5 3;gauge 47 4;wall w 1;people 3;rate 1;");
        x.hours(24);
        x.hours(23);
        KIT.all("HOUR 47", new int[] {x.now(0), x.now(1), x.now(6)}, 47, 4, 0);
        KIT.same("it goes", x.hours(24), 1);
        KIT.all("all are over", new int[] {x.now(0), x.now(1), x.now(6), x.house(0, 4)}, 48, 4, 1, 47);
        KIT.same("none goes", x.hours(1) + x.drawn(1, 0), 0);
        KIT.all("acts are done all the same", new int[] {x.post(2, 1, 0), x.quit(0), x.up(0)}, 0, 0, 1);
        KIT.all("no HOUR more", new int[] {x.now(0), x.now(4), x.now(7), x.now(9)}, 48, 0, 0, 0);
    }

    /** How many RESTS of two HOUSES of 7 and 5 behind a WALL that takes 15 bags, and who goes to it then. */
    private static void rests(int b, int rests, int walling) {
        BagsRiver x = Kit.on("wall w 1;house h w 7 0;house g w 5 0;house o outside 9 0;crest 5 1;");
        KIT.same("rests of " + b, x.rests(0, b), rests);
        KIT.same("walling of " + b, x.walling(), walling);
    }

    private static void toTheWallOrOnesOwnDoor() {
        KIT.quote("GAME at a WALL with b bags for each HOUSE behind it: each one's bags go to the WALL, or to one's own door "
            + "(9 save it).");
        rests(7, 4, 0);
        rests(8, 2, 3);
        rests(9, 2, 0);
        rests(14, 2, 0);
        rests(15, 4, 0);
        BagsRiver x = Kit.on("wall w 1;house h w 7 0;crest 5 1;");
        KIT.same("one alone, 8 bags: neither saves it", x.rests(0, 8), 2);
        KIT.same("one alone, 9 bags: the door", x.rests(0, 9), 1);
        KIT.same("its bags don't go to the WALL", x.walling(), 0);
        KIT.same("one alone, 15 bags: either", x.rests(0, 15), 2);
    }

    private static void drawnByASeed() {
        KIT.quote("DRAWN by a seed x: for each draw of n x becomes x * 1103515245 + 12345 (an int, wrapping)");
        int x = 20261119;
        BagsRiver y = new BagsRiver();
        int rain = 0;
        for (int hour = 1; hour <= 24; hour++) {
            x = x * 1103515245 + 12345;
            rain += (x >>> 8) % 6 == 0 ? 1 : 0;
            KIT.same("HOURS", y.drawn(hour, 20261119), hour);
            KIT.same("RAIN behind " + hour, y.now(7), rain);
            y.undo();
        }
        KIT.yes("it RAINS", rain > 0 && rain < 24);
    }
}
