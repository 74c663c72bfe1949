import java.io.ByteArrayOutputStream;
import java.io.IOException;
import java.io.PrintStream;
import java.lang.reflect.Method;
import java.lang.reflect.Modifier;
import java.nio.file.Files;
import java.nio.file.Path;
import java.util.List;
import java.util.stream.Collectors;

/** The example of README.md: it stands here word by word, and prints what README.md says. */
public final class ReadmeExample {
    private static int wrong;

    static void cross() {
        StraitHouse house = new StraitHouse();
        put(house, "cell depth 20 bend 1 flow 2; cell depth 15 bend 3 back 1 narrow; land ana; land bor shore;");
        System.out.println(house.strait()); // 4
        put(house, "kind big is tons > 40; may peace if not kind big or notice > 5; sum 80; notice 2; dues tons * 3;");
        System.out.println(house.convention(0)); // 5

        int ship = house.ship(0, 50, 120, 6, 2, 0, 1, true);
        System.out.println(house.kind(0, ship)); // 0
        System.out.println(house.hits(ship, true)); // -1
        int passage = house.ask(ship, 10, true, 7);
        System.out.println(house.reason(0, passage, 0)); // 0
        System.out.println(house.dues(0, passage, 0)); // 150
        System.out.println(house.inside(0, 10, 0, 0)); // 50
        System.out.println(house.goes(0, 10, 0, 2, 0)); // 5

        house.later(1);
        house.untell(passage);
        System.out.println(house.reason(0, passage, 0)); // 0
        System.out.println(house.reason(0, passage, 1)); // -1

        put(house, "stay 100;");
        System.out.println(house.convention(0)); // -1
        System.out.println(house.fault(0)); // 4
        System.out.println(house.fault(1)); // 5
        System.out.println(house.convention(4)); // -2
    }

    /** Puts a text on the TAPE, which is empty. */
    static void put(StraitHouse house, String text) {
        int[] n = new int[(text.length() + 19) / 20 * 5];
        for (int i = 0; i < text.length(); i++) {
            n[i / 4] |= text.charAt(i) << 24 - i % 4 * 8;
        }
        for (int i = 0; i < n.length; i += 5) {
            house.feed(n[i], n[i + 1], n[i + 2], n[i + 3], n[i + 4]);
        }
        house.end(text.length());
    }

    public static void main(String[] args) throws IOException {
        String readme = Files.readString(Path.of("README.md"));
        String block = blockOf(readme);
        check("README.md has an example", !block.isEmpty());
        check("the example stands in this test word by word", squeezed(ownSource()).contains(squeezed(block)));
        List<String> said = block.lines().filter(l -> l.contains("; // ")).map(l -> l.substring(l.indexOf("; // ") + 5)).toList();
        List<String> printed = printed();
        check("it prints " + printed + ", README.md says " + said, printed.equals(said));
        for (Method m : StraitHouse.class.getDeclaredMethods()) {
            String row = "\n| `" + m.getName() + "(";
            boolean hasOneRow = readme.contains(row) && readme.indexOf(row) == readme.lastIndexOf(row);
            check("README.md has one row for " + m.getName(), hasOneRow || !Modifier.isPublic(m.getModifiers()));
        }
        System.out.println(wrong == 0 ? "README.md says what the class does" : wrong + " things in README.md do not hold");
        if (wrong != 0) {
            System.exit(1);
        }
    }

    private static void check(String what, boolean holds) {
        if (!holds) {
            wrong++;
            System.out.println("not so: " + what);
        }
    }

    private static String blockOf(String readme) {
        int from = readme.indexOf("```java\n");
        int to = readme.indexOf("\n```\n", from);
        return from < 0 || to < 0 ? "" : readme.substring(from + 8, to);
    }

    private static String ownSource() throws IOException {
        return Files.readString(Path.of("src/test/java/ReadmeExample.java"));
    }

    /** Without what indents the lines. */
    private static String squeezed(String text) {
        return text.lines().map(String::strip).collect(Collectors.joining("\n"));
    }

    private static List<String> printed() {
        PrintStream screen = System.out;
        ByteArrayOutputStream caught = new ByteArrayOutputStream();
        System.setOut(new PrintStream(caught, true));
        cross();
        System.setOut(screen);
        return caught.toString().lines().toList();
    }
}
