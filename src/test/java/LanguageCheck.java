import java.io.IOException;
import java.lang.management.ManagementFactory;
import java.lang.reflect.Field;
import java.lang.reflect.Method;
import java.lang.reflect.Modifier;
import java.nio.file.Files;
import java.nio.file.Path;
import java.util.Arrays;
import java.util.List;
import java.util.Set;
import java.util.TreeSet;
import java.util.regex.Matcher;
import java.util.regex.Pattern;

/** Those rules of LANGUAGE.md that can be seen in the source, in the compiled classes, or counted in a run. */
public final class LanguageCheck {
    private static final String FACE = "feed end strait convention fault ship cell hits minutes kind turn ask untell later peace reason why inside "
            + "dues year gaps plan goes sight unsight readings could oil part about";
    private static int wrong;

    public static void main(String[] args) throws IOException {
        String source = withoutComments(Files.readString(Path.of("src/main/java/StraitHouse.java")));
        checkFace();
        checkClasses();
        checkWords(source);
        checkMethods(source);
        checkRoom();
        System.out.println(wrong == 0 ? "the language is kept" : wrong + " rules are not kept");
        if (wrong != 0) {
            System.exit(1);
        }
    }

    private static void rule(int number, boolean kept, String what) {
        if (!kept) {
            wrong++;
            System.out.println("rule " + number + ": " + what);
        }
    }

    private static String withoutComments(String source) {
        return source.replaceAll("(?s)/\\*.*?\\*/", "").replaceAll("//[^\n]*", "");
    }

    private static void checkFace() {
        Set<String> face = new TreeSet<>(List.of(FACE.split(" ")));
        Set<String> seen = new TreeSet<>();
        for (Method m : StraitHouse.class.getDeclaredMethods()) {
            if (Modifier.isPrivate(m.getModifiers())) {
                rule(1, !face.contains(m.getName()), "a private method has the name " + m.getName());
            } else {
                seen.add(m.getName());
                rule(1, Modifier.isPublic(m.getModifiers()), m.getName() + " is not public");
            }
        }
        rule(1, seen.equals(face), "the public methods are " + seen);
        for (Field f : StraitHouse.class.getDeclaredFields()) {
            rule(1, f.getName().equals("NONE") || Modifier.isPrivate(f.getModifiers()), f + " is not private");
        }
        rule(1, StraitHouse.class.getConstructors().length == 1 && Modifier.isFinal(StraitHouse.class.getModifiers()), "the class");
    }

    private static void checkClasses() {
        Set<String> face = Set.of(FACE.split(" "));
        Class<?>[] inside = StraitHouse.class.getDeclaredClasses();
        rule(11, inside.length + 1 <= 12, "classes: " + (inside.length + 1));
        for (Class<?> c : inside) {
            rule(2, Modifier.isStatic(c.getModifiers()), c + " is not static");
            for (Method m : c.getDeclaredMethods()) {
                rule(1, !face.contains(m.getName()), c + " has a method with the name " + m.getName());
                rule(11, m.getParameterCount() <= 7, m + " takes too many");
            }
            checkFields(c);
        }
        checkFields(StraitHouse.class);
    }

    private static void checkFields(Class<?> c) {
        long own = Arrays.stream(c.getDeclaredFields()).filter(f -> !Modifier.isStatic(f.getModifiers())).count();
        rule(11, own <= 22, c + " has fields: " + own);
        for (Field f : c.getDeclaredFields()) {
            rule(5, !Modifier.isStatic(f.getModifiers()) || Modifier.isFinal(f.getModifiers()), f + " is not final");
        }
    }

    private static void checkWords(String source) {
        String code = source.replaceAll("\"[^\"]*\"", "\"\"");
        Matcher banned = Pattern.compile("\\b(throw|throws|try|catch|finally|synchronized|assert|import|package|double|float|var|yield|System\\.\\w+|"
                + "\\w+Exact|Object|hashCode|toString|Thread|Random)\\b|->|::|\\bstatic\\s*\\{").matcher(code);
        while (banned.find()) {
            rule(6, false, "the source has " + banned.group());
        }
        rule(10, !Pattern.compile("\"\"\\s*\\+|\\+\\s*\"\"").matcher(code).find(), "texts are joined by +");
        rule(4, source.chars().allMatch(c -> c < 128), "the source has a sign above 127");
    }

    private static void checkMethods(String source) {
        Matcher heads = Pattern.compile("\n( +)(?:(?:public|private|static|final) )*[\\w\\[\\]]+ (\\w+)\\([^;{)]*\\) \\{\n(.*?)\n\\1\\}", Pattern.DOTALL)
                .matcher(source);
        int many = 0;
        while (heads.find()) {
            many++;
            rule(11, heads.group(3).split("\n").length <= 60, heads.group(2) + " is too long");
        }
        rule(11, many > 100, "only so many methods were found: " + many);
    }

    /** What 512 dear calls make must leave room for all other runs: they make nothing. */
    private static void checkRoom() {
        var counter = (com.sun.management.ThreadMXBean) ManagementFactory.getThreadMXBean();
        long self = Thread.currentThread().getId();
        runOnce();
        long before = counter.getThreadAllocatedBytes(self);
        StraitHouse house = new StraitHouse();
        long made = counter.getThreadAllocatedBytes(self);
        play(house);
        long after = counter.getThreadAllocatedBytes(self);
        rule(12, made - before < 120_000, "a new object takes " + (made - before) + " bytes");
        rule(12, after - made < 1_000, "its calls take " + (after - made) + " bytes");
    }

    private static void runOnce() {
        play(new StraitHouse());
    }

    private static void play(StraitHouse house) {
        // "cell depth 99 bend 0 flow 1 narrow; land a;"
        house.feed(0x63656c6c, 0x20646570, 0x74682039, 0x39206265, 0x6e642030);
        house.feed(0x20666c6f, 0x77203120, 0x6e617272, 0x6f773b20, 0x6c616e64);
        house.feed(0x20613b20, 0x20202020, 0x20202020, 0x20202020, 0x20202020);
        house.strait();
        // "kind b is tons>90;may peace if 1;"
        house.feed(0x6b696e64, 0x20622069, 0x7320746f, 0x6e733e39, 0x303b6d61);
        house.feed(0x79207065, 0x61636520, 0x69662031, 0x3b202020, 0x20202020);
        rule(12, house.convention(0) == 2, "the run is not what it should be");
        for (int i = 0; i < 10; i++) {
            house.ship(0, 10 * i, 40 * i + 10, 5, 0, 0, 0, i % 2 == 0);
            house.ask(i, 0, true, 0);
            house.sight(0, 5 * i, true, -1);
        }
        for (int i = 0; i < 60; i++) {
            house.gaps(1 + i, 200);
            house.plan(0, 0, 1, 0);
            house.readings(0, 0, 0);
            house.could(0, i % 8, 0);
            house.part(0, 1, 0);
            house.oil(0, 99999, 1000, 20);
            house.year(0, 0, 0);
        }
    }
}
