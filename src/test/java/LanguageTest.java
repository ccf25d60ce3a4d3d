import java.io.IOException;
import java.lang.reflect.Field;
import java.lang.reflect.Method;
import java.lang.reflect.Modifier;
import java.nio.charset.StandardCharsets;
import java.nio.file.Files;
import java.nio.file.Path;
import java.util.ArrayList;
import java.util.Arrays;
import java.util.List;
import java.util.Set;
import java.util.TreeSet;
import java.util.regex.Matcher;
import java.util.regex.Pattern;

/** The face by reflection, what LANGUAGE.md rules out looked for in the source, and what calls make. */
public final class LanguageTest {
    private static final Path SOURCE = Path.of("src/main/java/TwoGoodOfEight.java");
    private static final Check CHECK = new Check();
    private static final String FACE =
        "int feed(int)|int drawer()|int battery(int,int)|int kind(int,int,int)|int truly(int)|int good(int,int)|"
        + "int lamp(int,int)|int would(int)|int tries(int)|int book(int)|int strike()|int may(int)|"
        + "long likely(int,int)|long lit(int,int)|int leaves(int)|int best(int)|int worst(int)|int heaps(int,int)|"
        + "int order(int)|long mean(int)|int trier(int)|int chain(int,int)|int tester(int,int,int)|"
        + "long forgets(int,int,int)|int back(int,int)|int bestRule(int)|int put(int,int)|int suspect()|int row(int)|"
        + "int judge()|int seeds(int,int,int,int)|int image()|int restore()|int count(int)";

    public static void main(String[] args) throws IOException {
        String source = Files.readString(SOURCE, StandardCharsets.ISO_8859_1);
        String code = withoutComments(source);
        face();
        membersInside();
        words(code);
        library(code);
        indexes(code);
        methods(code);
        room();
        CHECK.close();
    }

    private static String withoutComments(String source) {
        return Pattern.compile("/\\*.*?\\*/", Pattern.DOTALL).matcher(source).replaceAll("")
            .replaceAll("//[^\n]*", "");
    }

    private static void face() {
        CHECK.about("Rule 1");
        Class<?> made = TwoGoodOfEight.class;
        CHECK.holds("public and final", made.getModifiers() == (Modifier.PUBLIC | Modifier.FINAL));
        CHECK.due("constructors", made.getDeclaredConstructors().length, 1);
        CHECK.due("public ones", made.getConstructors().length, 1);
        Set<String> due = new TreeSet<>(Arrays.asList(FACE.split("\\|")));
        Set<String> names = new TreeSet<>();
        Set<String> found = new TreeSet<>();
        List<Method> hidden = new ArrayList<>();
        for (Method m : made.getDeclaredMethods()) {
            if (Modifier.isPublic(m.getModifiers())) {
                found.add(m.getReturnType() + " " + m.getName() + Arrays.toString(m.getParameterTypes())
                    .replace("[", "(").replace("]", ")").replace(" ", ""));
                names.add(m.getName());
            } else {
                CHECK.holds(m + " is private", Modifier.isPrivate(m.getModifiers()));
                hidden.add(m);
            }
        }
        CHECK.holds("the document's methods: " + found, found.equals(due));
        for (Class<?> inside : made.getDeclaredClasses()) {
            hidden.addAll(Arrays.asList(inside.getDeclaredMethods()));
        }
        for (Method m : hidden) {
            CHECK.holds(m + " bears no public name", !names.contains(m.getName()));
        }
        for (Field f : made.getDeclaredFields()) {
            CHECK.holds(f + " is private", Modifier.isPrivate(f.getModifiers()));
        }
    }

    private static void membersInside() {
        List<Class<?>> all = new ArrayList<>(Arrays.asList(TwoGoodOfEight.class.getDeclaredClasses()));
        CHECK.about("Rule 11");
        CHECK.holds("at most eleven classes inside", all.size() <= 11);
        all.add(TwoGoodOfEight.class);
        for (Class<?> one : all) {
            CHECK.about("Rule 2");
            CHECK.holds(one + " is static", one == TwoGoodOfEight.class || Modifier.isStatic(one.getModifiers()));
            int fields = 0;
            for (Field f : one.getDeclaredFields()) {
                CHECK.about("Rule 5");
                boolean isStatic = Modifier.isStatic(f.getModifiers());
                CHECK.holds(f + " is final", !isStatic || Modifier.isFinal(f.getModifiers()));
                fields += isStatic ? 0 : 1;
            }
            CHECK.about("Rule 11");
            CHECK.holds(one + " has at most twenty fields", fields <= 20);
            for (Method m : one.getDeclaredMethods()) {
                CHECK.holds(m + " takes at most seven", m.getParameterCount() <= 7);
            }
        }
    }

    private static void words(String code) {
        CHECK.about("Rules 2, 6, 12, 13");
        String[] ruledOut = {"throw", "throws", "try", "catch", "finally", "synchronized", "assert", "import", "package",
            "volatile", "transient", "native", "strictfp", "System", "Thread", "Object", "instanceof", "equals", "hashCode", "toString", "protected"};
        for (String word : ruledOut) {
            CHECK.holds("no " + word, !Pattern.compile("\\b" + word + "\\b").matcher(code).find());
        }
        CHECK.holds("no lambda", !code.contains("->"));
        CHECK.holds("no method reference", !code.contains("::"));
        CHECK.holds("signs 1 to 127", code.chars().allMatch(c -> c < 128));
        Matcher made = Pattern.compile("\\bnew\\b").matcher(code);
        int makes = 0;
        while (made.find()) {
            makes++;
        }
        Matcher inFields = Pattern.compile("(?m)^ +(private )?final \\S+ \\w+ = new [^;]*;$").matcher(code);
        int makesInFields = 0;
        while (inFields.find()) {
            makesInFields++;
        }
        CHECK.due("all that is made is made in fields", makesInFields, makes);
    }

    private static void library(String code) {
        CHECK.about("Rule 4");
        Set<String> used = new TreeSet<>();
        Matcher m = Pattern.compile("\\b(?:Integer|Long|Math|String|Arrays|List)\\.\\w+").matcher(code);
        while (m.find()) {
            used.add(m.group());
        }
        used.removeAll(List.of("Integer.bitCount", "Long.bitCount", "Math.max", "Math.min"));
        CHECK.holds("nothing else of the library: " + used, used.isEmpty());
    }

    private static void indexes(String code) {
        CHECK.about("Rule 7");
        Matcher index = Pattern.compile("(\\w+)\\[(\\w[^\\]]*)\\]").matcher(code);
        int plain = 0;
        while (index.find()) {
            boolean makes = Set.of("int", "long").contains(index.group(1));
            if (!makes) {
                CHECK.due(index.group() + " stands in a row's function", index.group().equals("list[i]") ? 1 : 0, 1);
                plain++;
            }
        }
        CHECK.due("two that read, two that write", plain, 4);
    }

    private static void methods(String code) {
        CHECK.about("Rule 11");
        int start = -1;
        String[] lines = code.split("\n");
        for (int i = 0; i < lines.length; i++) {
            if (lines[i].matches(" {4,8}[\\w\\[\\] ]+\\([^;]*\\) \\{") && !lines[i].trim().startsWith("if")) {
                start = i;
            }
            if (start >= 0 && lines[i].matches(" {4,8}\\}")
                && lines[i].indexOf('}') == lines[start].length() - lines[start].stripLeading().length()) {
                CHECK.holds(lines[start].trim() + " has at most sixty lines", i - start < 60);
                start = -1;
            }
        }
    }

    /** No call makes anything: the rows of the constructor are used again. */
    private static void room() {
        CHECK.about("The room");
        com.sun.management.ThreadMXBean threads =
            (com.sun.management.ThreadMXBean) java.lang.management.ManagementFactory.getThreadMXBean();
        long before = 0;
        for (int round = 0; round < 3; round++) {
            TwoGoodOfEight x = new TwoGoodOfEight();
            before = threads.getCurrentThreadAllocatedBytes();
            allCalls(x);
            before = threads.getCurrentThreadAllocatedBytes() - before;
        }
        CHECK.holds("all calls together make " + before + " bytes", before < 512);
        long made = threads.getCurrentThreadAllocatedBytes();
        TwoGoodOfEight one = new TwoGoodOfEight();
        made = threads.getCurrentThreadAllocatedBytes() - made;
        CHECK.holds("an object is made of " + made + " bytes", made < 16384 && one.count(0) == 8);
    }

    private static void allCalls(TwoGoodOfEight x) {
        for (int a = -1; a < 7; a++) {
            x.feed(a);
            x.drawer();
            x.battery(a, 2);
            x.kind(a, 1, 2);
            x.truly(a);
            x.good(a, 0);
            x.lamp(1, 2);
            x.would(a);
            x.tries(a);
            x.book(a);
            x.strike();
            x.may(a);
            x.likely(a, 0);
            x.lit(a, 1);
            x.leaves(a);
            x.best(a);
            x.worst(a);
            x.heaps(9, a);
            x.order(a);
            x.mean(a);
            x.trier(a);
            x.chain(77, a);
            x.tester(9, 1, a);
            x.forgets(a, 1, 1);
            x.back(a, 3);
            x.bestRule(a);
            x.put(a, 5);
            x.suspect();
            x.row(a);
            x.judge();
            x.seeds(a, 20, 5, 0);
            x.image();
            x.restore();
            x.count(a);
        }
    }
}
