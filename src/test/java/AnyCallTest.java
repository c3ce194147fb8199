import java.lang.reflect.InvocationTargetException;
import java.lang.reflect.Method;
import java.lang.reflect.Modifier;
import java.util.Arrays;
import java.util.Comparator;
import java.util.NoSuchElementException;
import java.util.Random;
import java.util.Set;

/** Any call with any arguments in any state: nothing is thrown but what the document tells, and it always answers alike. */
public final class AnyCallTest {
    private static final Set<String> THROWING = Set.of("house", "plan", "sure");
    private static final int[] ODD = {Integer.MIN_VALUE, Integer.MIN_VALUE + 1, Integer.MIN_VALUE + 10, -1000, -11, -2, -1,
        940, 941, 999, 1000, 1 << 16, Integer.MAX_VALUE - 9, Integer.MAX_VALUE - 1, Integer.MAX_VALUE};
    private static final String[] PIECES = {"wall", "house", "outside", "drain", "crest", "gauge", "people", "sand",
        "rate", "post", "quit", "up", "hour", "or", "and", "not", "flooded", "upped", "safe", "behind", "worth",
        "floor", "number", "a", "b", "c", "d", "e", "f", ";", ";", ";", "(", ")", "<", "=", ">", "0", "1", "2", "9",
        "20", "60", "61", "99", "100", "999", "1000", ".", "x1", "\u00e9", "\t", "abcdefgh"};

    public static void main(String[] args) throws IllegalAccessException {
        Kit kit = new Kit();
        Method[] calls = BagsRiver.class.getDeclaredMethods();
        calls = Arrays.stream(calls).filter(m -> Modifier.isPublic(m.getModifiers()))
            .sorted(Comparator.comparing(Method::getName)).toArray(Method[]::new);
        for (int seed = 0; seed < 1800; seed++) {
            kit.part("seed " + seed);
            BagsRiver one = new BagsRiver();
            BagsRiver other = new BagsRiver();
            Random random = new Random(seed);
            if (seed % 4 != 0) {
                Kit.street(one, Kit.STREET);
                Kit.street(other, Kit.STREET);
            }
            for (int i = 0; i < 160; i++) {
                if (random.nextInt(6) == 0) {
                    String text = text(random);
                    feed(one, text);
                    feed(other, text);
                }
                Method call = calls[random.nextInt(calls.length)];
                Object[] with = new Object[call.getParameterCount()];
                for (int k = 0; k < with.length; k++) {
                    with[k] = random.nextInt(6) == 0 ? ODD[random.nextInt(ODD.length)] : random.nextInt(14) - 1;
                }
                String what = call.getName() + Arrays.toString(with);
                long answer = answer(kit, what, call, one, with);
                kit.same(what + " of two alike", answer(kit, what, call, other, with), answer);
            }
        }
        kit.finish();
    }

    private static long answer(Kit kit, String what, Method call, BagsRiver x, Object[] with)
            throws IllegalAccessException {
        try {
            Object answer = call.invoke(x, with);
            return answer instanceof Boolean b ? (b ? 1 : 0) : (Integer) answer;
        } catch (InvocationTargetException e) {
            boolean due = THROWING.contains(call.getName()) && e.getCause() instanceof NoSuchElementException;
            kit.yes(what + " threw " + e.getCause(), due);
            return Long.MIN_VALUE;
        }
    }

    private static String text(Random random) {
        StringBuilder text = new StringBuilder();
        int pieces = random.nextInt(30);
        for (int i = 0; i < pieces; i++) {
            text.append(PIECES[random.nextInt(PIECES.length)]).append(random.nextInt(9) == 0 ? "" : " ");
        }
        return text.toString();
    }

    private static void feed(BagsRiver x, String text) {
        if (x.count(6) + text.length() + 20 <= 940) {
            Kit.text(x, text);
        }
    }
}
