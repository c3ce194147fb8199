/** The program that README.md shows, word by word: ReadmeTest runs it. */
public final class Example {
    static final String STREET = "wall left 1; wall right 2;"
        + "house mill left 40 1; house shop left 30 2; house inn right 50 1;"
        + "house hut outside 20 2; house hall outside 10 4;"
        + "drain sink left 3 5; crest 3 1; crest 4 2; crest 5 1;"
        + "gauge 0 1; gauge 4 2; gauge 6 4; people 12; sand 300; rate 5;";

    public static void main(String[] args) {
        BagsRiver x = new BagsRiver();

        // A STREET is told: two walls, five houses, a drain.
        put(x, STREET);
        System.out.println("street " + x.street() + ", tape " + x.count(6));

        // A FAULT: a wall is 1 to 20 wide. The STREET stays, the tape is empty all the same.
        put(x, "wall new 0;");
        System.out.println("street " + x.street() + ", fault " + x.fault() + ", walls " + x.count(0));

        // Eight fill and four carry to wall 0 for five hours.
        System.out.println("post " + x.post(8, 4, 0) + ", hours " + x.hours(5));
        System.out.println("bags " + x.wall(0, 1) + ", high " + x.wall(0, 2) + ", flooded " + x.now(6));

        // A BOOK is judged: its line 2 is wrong, as the inn is flooded (21); all stays as it is.
        put(x, "up mill; hour 2; up inn;");
        System.out.println("book " + x.book(0) + ", why " + x.told(0) + ", hour then " + x.told(2));
        System.out.println("hour now " + x.now(0));

        // Of two houses it may be said that they are behind wall 0 and not flooded.
        put(x, "behind left and not flooded");
        System.out.println("sentence " + x.sentence() + ", said of " + x.said(BagsRiver.NONE));

        // 195/2 is saved in the mean, if 30 bags make both walls 4 inches high.
        System.out.println("plan " + x.plan(30, 0) + "/" + x.plan(30, 1) + ", " + x.planAt(0) + " " + x.planAt(1));

        // The five hours have not been, nor the posting; nothing else can be undone.
        System.out.println("undo " + x.undo() + " " + x.undo() + " " + x.undo() + ", hour now " + x.now(0));

        // There is no house 5.
        try {
            System.out.println(x.house(5, 0));
        } catch (java.util.NoSuchElementException e) {
            System.out.println("no house 5");
        }
    }

    /** Puts a text on an empty tape: twenty bytes a call, four in each number, the first byte the highest. */
    private static void put(BagsRiver x, String text) {
        for (int i = 0; i < text.length(); i += 20) {
            x.feed(four(text, i), four(text, i + 4), four(text, i + 8), four(text, i + 12), four(text, i + 16));
        }
        x.end(text.length());
    }

    private static int four(String text, int from) {
        int number = 0;
        for (int i = from; i < from + 4; i++) {
            number = number << 8 | (i < text.length() ? text.charAt(i) & 255 : 0);
        }
        return number;
    }
}
