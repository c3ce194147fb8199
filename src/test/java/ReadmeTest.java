import java.io.ByteArrayOutputStream;
import java.io.IOException;
import java.io.PrintStream;
import java.lang.reflect.InvocationTargetException;
import java.lang.reflect.Method;
import java.lang.reflect.Modifier;
import java.nio.charset.StandardCharsets;
import java.nio.file.Files;
import java.nio.file.Path;
import java.util.Arrays;
import java.util.List;
import java.util.NoSuchElementException;
import java.util.Set;
import java.util.TreeSet;
import java.util.regex.Matcher;
import java.util.regex.Pattern;

/** What README.md shows is so: its program, what that prints, and every example of its tables. */
public final class ReadmeTest {
    private static final Kit KIT = new Kit();
    private static final Pattern EXAMPLE = Pattern.compile("`(\\w+)\\(([^)]*)\\)` (= (-?\\w+)|throws)");

    public static void main(String[] args) throws IOException, IllegalAccessException {
        List<String> readme = Files.readAllLines(Path.of("README.md"));
        program(readme);
        printed(readme);
        rows(readme);
        examples(readme);
        tests(readme);
        KIT.finish();
    }

    /** The lines between ``` and a sort, and the next ```. */
    private static List<String> block(List<String> readme, String sort) {
        int from = readme.indexOf("```" + sort) + 1;
        List<String> behind = readme.subList(from, readme.size());
        return from == 0 ? List.of() : behind.subList(0, behind.indexOf("```"));
    }

    private static void program(List<String> readme) throws IOException {
        KIT.part("program");
        KIT.yes("it is Example.java", block(readme, "java").equals(Files.readAllLines(Path.of("src/test/java/Example.java"))));
    }

    private static void printed(List<String> readme) {
        KIT.part("what the program prints");
        PrintStream out = System.out;
        ByteArrayOutputStream bytes = new ByteArrayOutputStream();
        System.setOut(new PrintStream(bytes, true, StandardCharsets.UTF_8));
        Example.main(new String[0]);
        System.setOut(out);
        List<String> printed = bytes.toString(StandardCharsets.UTF_8).lines().toList();
        List<String> due = block(readme, "text");
        KIT.same("lines", printed.size(), due.size());
        for (int i = 0; i < Math.min(printed.size(), due.size()); i++) {
            KIT.yes(printed.get(i) + " is " + due.get(i), printed.get(i).equals(due.get(i)));
        }
    }

    private static boolean isRow(String line) {
        return line.startsWith("| `");
    }

    private static Method[] face() {
        return Arrays.stream(BagsRiver.class.getDeclaredMethods()).filter(m -> Modifier.isPublic(m.getModifiers()))
            .toArray(Method[]::new);
    }

    /** Each call of the face has one row, with as many arguments as it takes. */
    private static void rows(List<String> readme) {
        KIT.part("rows");
        Set<String> due = new TreeSet<>();
        for (Method m : face()) {
            due.add(m.getName() + m.getParameterCount());
        }
        for (String line : readme) {
            if (isRow(line)) {
                String[] cells = line.split(" \\| ?");
                String call = cells[0].substring(3, cells[0].length() - 2);
                String[] parts = call.split("\\(", 2);
                int many = parts[1].isEmpty() ? 0 : parts[1].split(", ").length;
                KIT.yes(call + " is of the face, and told once", due.remove(parts[0] + many));
                KIT.same(call + " has four cells", cells.length, 4);
                KIT.yes(call + " has an example", cells[3].contains("`" + parts[0] + "("));
            }
        }
        KIT.same("calls without a row " + due, due.size(), 0);
    }

    private static void examples(List<String> readme) throws IllegalAccessException {
        KIT.part("example");
        BagsRiver x = Kit.on(Example.STREET);
        for (String line : readme) {
            Matcher m = EXAMPLE.matcher(isRow(line) ? line : "");
            while (m.find()) {
                String due = m.group(4) == null ? "throws" : m.group(4);
                String got = answer(x, m.group(1), m.group(2).isEmpty() ? new String[0] : m.group(2).split(", "));
                KIT.yes(m.group() + ", it is " + got, due.equals(got));
            }
        }
    }

    private static String answer(BagsRiver x, String name, String[] with) throws IllegalAccessException {
        Object[] numbers = Arrays.stream(with).map(s -> s.equals("NONE") ? BagsRiver.NONE : Integer.parseInt(s)).toArray();
        for (Method m : face()) {
            if (m.getName().equals(name) && m.getParameterCount() == numbers.length) {
                try {
                    String got = String.valueOf(m.invoke(x, numbers));
                    return got.equals("-1") && !name.equals("sentence") ? "NONE" : got;
                } catch (InvocationTargetException e) {
                    return e.getCause() instanceof NoSuchElementException ? "throws" : String.valueOf(e.getCause());
                }
            }
        }
        return "no such call";
    }

    /** All tests are told of, and there are no others. */
    private static void tests(List<String> readme) throws IOException {
        KIT.part("tests");
        Set<String> told = new TreeSet<>();
        Matcher m = Pattern.compile("`(\\w+Test)`").matcher(String.join("\n", readme));
        while (m.find()) {
            told.add(m.group(1) + ".java");
        }
        Set<String> there = new TreeSet<>();
        try (var files = Files.list(Path.of("src/test/java"))) {
            files.map(f -> f.getFileName().toString()).filter(f -> f.endsWith("Test.java")).forEach(there::add);
        }
        KIT.yes("told " + told + ", there " + there, told.equals(there));
    }
}
