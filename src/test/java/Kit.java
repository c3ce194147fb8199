import java.util.NoSuchElementException;
import java.util.function.IntSupplier;

/** What the tests share: texts onto the tape, and checks that are counted. */
final class Kit {
    /** What a call that threw NoSuchElementException is taken to have answered. */
    static final int THROWS = Integer.MIN_VALUE;

    /** The street of most tests: two walls, two houses behind the first, one behind the other, two outside. */
    static final String STREET = "wall left 1;wall right 2;house mill left 40 5;house shop left 30 9;"
        + "house inn right 50 4;house hut outside 20 6;house hall outside 10 8;drain sink left 7 5;"
        + "crest 8 1;crest 10 2;crest 12 1;gauge 0 3;gauge 4 6;gauge 6 9;people 12;sand 300;rate 5;";

    private int wrong;
    private int checks;
    private String part = "";

    void part(String name) {
        part = name;
    }

    void same(String what, long got, long want) {
        checks++;
        if (got != want) {
            wrong++;
            if (wrong <= 40) {
                System.out.println(part + ": " + what + " answered " + got + ", due is " + want);
            }
        }
    }

    void yes(String what, boolean got) {
        same(what, got ? 1 : 0, 1);
    }

    void no(String what, boolean got) {
        same(what, got ? 1 : 0, 0);
    }

    void finish() {
        System.out.println(checks + " checks, " + wrong + " wrong");
        if (wrong != 0 || checks == 0) {
            System.exit(1);
        }
    }

    static int caught(IntSupplier call) {
        try {
            return call.getAsInt();
        } catch (NoSuchElementException e) {
            return THROWS;
        }
    }

    static void bytes(BagsRiver x, int... bytes) {
        int before = x.count(6);
        for (int i = 0; i < bytes.length; i += 20) {
            int[] words = new int[5];
            for (int k = 0; k < 20; k++) {
                int b = i + k < bytes.length ? bytes[i + k] & 255 : 0;
                words[k / 4] = words[k / 4] << 8 | b;
            }
            if (x.feed(words[0], words[1], words[2], words[3], words[4]) < 0) {
                throw new IllegalStateException("the tape is full");
            }
        }
        if (!x.end(before + bytes.length)) {
            throw new IllegalStateException("the tape is too short");
        }
    }

    static void text(BagsRiver x, String text) {
        int[] bytes = new int[text.length()];
        for (int i = 0; i < bytes.length; i++) {
            bytes[i] = text.charAt(i);
        }
        bytes(x, bytes);
    }

    static BagsRiver on(String street) {
        BagsRiver x = new BagsRiver();
        text(x, street);
        int lines = x.street();
        if (lines < 0) {
            throw new IllegalStateException("fault " + x.fault() + " at " + (-1 - lines) + " of " + street);
        }
        return x;
    }

    static int street(BagsRiver x, String text) {
        text(x, text);
        return x.street();
    }

    static int book(BagsRiver x, String text, int lives) {
        text(x, text);
        return x.book(lives);
    }

    static int sentence(BagsRiver x, String text) {
        text(x, text);
        return x.sentence();
    }

    /** Houses of which it may be said, as bits, asked one by one; NONE without a sentence. */
    static int saidBits(BagsRiver x) {
        int many = x.said(-1);
        if (many < 0) {
            return many;
        }
        int bits = 0;
        for (int k = 0; k < many; k++) {
            bits |= 1 << x.said(k);
        }
        return bits;
    }

    static String repeat(String s, int n) {
        StringBuilder all = new StringBuilder();
        for (int i = 0; i < n; i++) {
            all.append(s);
        }
        return all.toString();
    }

    static String padded(String s, int bytes) {
        return s + repeat(" ", bytes - s.length());
    }
}
