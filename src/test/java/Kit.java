import java.io.IOException;
import java.nio.file.Files;
import java.nio.file.Path;
import java.util.ArrayList;
import java.util.List;
import java.util.NoSuchElementException;
import java.util.function.Consumer;
import java.util.function.IntSupplier;
import java.util.function.IntUnaryOperator;

/** What the tests share: texts onto the tape, and checks that are counted. */
final class Kit {
    /** What a call that threw NoSuchElementException is taken to have answered. */
    static final int THROWS = Integer.MIN_VALUE;

    /** The street of most tests: two walls, two houses behind the first, one behind the other, two outside. */
    static final String STREET = "wall left 1;wall right 2;house mill left 40 5;house shop left 30 9;"
        + "house inn right 50 4;house hut outside 20 6;house hall outside 10 8;drain sink left 7 5;"
        + "crest 8 1;crest 10 2;crest 12 1;gauge 0 3;gauge 4 6;gauge 6 9;people 12;sand 300;rate 5;";

    private static final String DOCUMENT = document();

    private int wrong;
    private int checks;
    private String part = "";

    void part(String name) {
        part = name;
    }

    /** The checks behind it are for this sentence of the document, word by word as it stands there. */
    void quote(String words) {
        part = words;
        yes("the document has these words", DOCUMENT.isEmpty() || DOCUMENT.contains(words));
    }

    private static String document() {
        Path path = Path.of("../shared/DOC.md");
        try {
            return Files.exists(path) ? Files.readString(path).replace("`", "").replaceAll("\\s+", " ") : "";
        } catch (IOException e) {
            throw new IllegalStateException(e);
        }
    }

    void same(String what, long got, long want) {
        checks++;
        if (got != want) {
            wrong++;
            if (wrong <= 40) {
                System.out.println(part + ": " + what + " answered " + got + ", due is " + want);
            }
        }
    }

    void yes(String what, boolean got) {
        same(what, got ? 1 : 0, 1);
    }

    void no(String what, boolean got) {
        same(what, got ? 1 : 0, 0);
    }

    void all(String what, int[] got, int... want) {
        same(what + ": how many", got.length, want.length);
        for (int i = 0; i < Math.min(got.length, want.length); i++) {
            same(what + " [" + i + "]", got[i], want[i]);
        }
    }

    /**
     * The same calls on two objects, then some more on the first alone, which must leave all as it was:
     * what other calls tell, what can be undone, what images hold.
     */
    void leavesAll(String what, Consumer<BagsRiver> calls, Consumer<BagsRiver> more) {
        BagsRiver one = new BagsRiver();
        BagsRiver other = new BagsRiver();
        calls.accept(one);
        calls.accept(other);
        more.accept(one);
        all(what + ", all that is told", everything(one), everything(other));
        all(what + ", of the latest text", ofTexts(one), ofTexts(other));
        for (int i = 0; i < 9; i++) {
            same(what + ", undone " + i, one.undo(), other.undo());
            same(what + ", HOUR undone " + i, one.now(0), other.now(0));
        }
        all(what + ", all undone", everything(one), everything(other));
        for (int k = 0; k < 2; k++) {
            yes(what + ", image " + k, one.restore(k) == other.restore(k));
            all(what + ", image " + k, everything(one), everything(other));
        }
    }

    /** What fault() and told() answer. */
    static int[] ofTexts(BagsRiver x) {
        return new int[] {x.fault(), x.told(0), x.told(1), x.told(2), x.told(3)};
    }

    /** All else that can be told without a change, by some hundred calls on a STREET like that of most tests. */
    static int[] everything(BagsRiver x) {
        List<Integer> told = new ArrayList<>();
        tell(told, 7, x::count);
        tell(told, 10, x::now);
        tell(told, 3, x::posted);
        tell(told, 2, x::crewed);
        tell(told, 5, x::planAt);
        for (int w = 0; w < x.count(0); w++) {
            int wall = w;
            tell(told, 6, what -> x.wall(wall, what));
        }
        for (int h = 0; h < x.count(1); h++) {
            int house = h;
            tell(told, 6, what -> x.house(house, what));
        }
        for (int d = 0; d < x.count(2); d++) {
            int drain = d;
            tell(told, 5, what -> x.drain(drain, what));
        }
        int[] crests = {7, 8, 9, 11};
        tell(told, 4, i -> caught(() -> x.sure(crests[i], 0, 0)));
        tell(told, 1, i -> x.walling());
        tell(told, 1, i -> x.carried());
        tell(told, 1, i -> x.most());
        tell(told, 1, i -> x.last());
        told.add(saidBits(x));
        return told.stream().mapToInt(i -> i).toArray();
    }

    private static void tell(List<Integer> told, int many, IntUnaryOperator call) {
        for (int what = 0; what < many; what++) {
            told.add(call.applyAsInt(what));
        }
    }

    void finish() {
        System.out.println(checks + " checks, " + wrong + " wrong");
        if (wrong != 0 || checks == 0) {
            System.exit(1);
        }
    }

    static int caught(IntSupplier call) {
        try {
            return call.getAsInt();
        } catch (NoSuchElementException e) {
            return THROWS;
        }
    }

    static void bytes(BagsRiver x, int... bytes) {
        int before = x.count(6);
        for (int i = 0; i < bytes.length; i += 20) {
            int[] words = new int[5];
            for (int k = 0; k < 20; k++) {
                int b = i + k < bytes.length ? bytes[i + k] & 255 : 0;
                words[k / 4] = words[k / 4] << 8 | b;
            }
            if (x.feed(words[0], words[1], words[2], words[3], words[4]) < 0) {
                throw new IllegalStateException("the tape is full");
            }
        }
        if (!x.end(before + bytes.length)) {
            throw new IllegalStateException("the tape is too short");
        }
    }

    static void text(BagsRiver x, String text) {
        int[] bytes = new int[text.length()];
        for (int i = 0; i < bytes.length; i++) {
            bytes[i] = text.charAt(i);
        }
        bytes(x, bytes);
    }

    static BagsRiver on(String street) {
        BagsRiver x = new BagsRiver();
        text(x, street);
        int lines = x.street();
        if (lines < 0) {
            throw new IllegalStateException("fault " + x.fault() + " at " + (-1 - lines) + " of " + street);
        }
        return x;
    }

    static int street(BagsRiver x, String text) {
        text(x, text);
        return x.street();
    }

    static int book(BagsRiver x, String text, int lives) {
        text(x, text);
        return x.book(lives);
    }

    static int sentence(BagsRiver x, String text) {
        text(x, text);
        return x.sentence();
    }

    /** Houses of which it may be said, as bits, asked one by one; NONE without a sentence. */
    static int saidBits(BagsRiver x) {
        int many = x.said(-1);
        if (many < 0) {
            return many;
        }
        int bits = 0;
        for (int k = 0; k < many; k++) {
            bits |= 1 << x.said(k);
        }
        return bits;
    }

    static String repeat(String s, int n) {
        StringBuilder all = new StringBuilder();
        for (int i = 0; i < n; i++) {
            all.append(s);
        }
        return all.toString();
    }

    static String padded(String s, int bytes) {
        return s + repeat(" ", bytes - s.length());
    }
}
