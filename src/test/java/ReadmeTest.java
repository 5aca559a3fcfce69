import java.io.IOException;
import java.lang.reflect.Method;
import java.lang.reflect.Modifier;
import java.nio.file.Files;
import java.nio.file.Path;
import java.util.ArrayList;
import java.util.List;
import java.util.regex.Matcher;
import java.util.regex.Pattern;

/** The examples, names of calls, ticks and images in README.md hold; the test is started in the project's directory, as .ci/run does. */
public final class ReadmeTest {
    private static final Checks checks = new Checks("ReadmeTest");
    private static final Path README = Path.of("README.md");
    private static final Path SOURCE = Path.of("src/test/java/ReadmeTest.java");

    public static void main(String[] args) throws IOException {
        thirdRoundedAndStored();
        exceptionThatIsNotMasked();
        wrongArgument();
        imagesInCells();
        examplesAreThoseOfThePage();
        everyCallIsNamed();
        ticksAreThoseOfThePage();
        checks.end();
    }

    private static void thirdRoundedAndStored() {
        StackReal s = new StackReal();
        s.write(0, 1);
        s.write(1, 3);
        s.load(0, 0);
        checks.due("exponent(0) of 1", s.exponent(0), 0);
        s.load(1, 0);
        checks.due("depth() after two loads", s.depth(), 2);
        int flags = s.operate(3, 0);
        checks.due("DIV 1 by 3", flags, 16);
        s.store(2, 1);
        long early = s.memory(2);
        checks.due("memory(2) while the store is under way", early, 0);
        int waited = s.await();
        checks.due("await() after a store", waited, 10);
        double third = Double.longBitsToDouble(s.memory(2));
        checks.due("the third", third, 1.0 / 3.0);
    }

    private static void exceptionThatIsNotMasked() {
        boolean thrown = false;
        StackReal s = new StackReal();
        s.control(64, 0, 31 & ~2);
        s.operate(14, 0);
        s.operate(15, 0);
        checks.due("kind(0) behind ZERO", s.kind(0), 0);
        checks.due("kind(1) behind ONE", s.kind(1), 1);
        try {
            s.operate(3, 0);
        } catch (ArithmeticException e) {
            thrown = true;
            int flags = s.flags();
            checks.due("flags() when DIVIDED is not masked", flags, 2);
            int depth = s.depth();
            checks.due("depth() when DIVIDED is not masked", depth, 2);
        }
        checks.isTrue("DIV by 0 throws when DIVIDED is not masked", thrown);
        s.clear();
        checks.due("flags() after clear()", s.flags(), 0);
        s.control(64, 0, 31);
        int answer = s.operate(3, 0);
        checks.due("DIV by 0 when DIVIDED is masked", answer, 2);
        int kind = s.kind(0);
        checks.due("kind(0) of 1 by 0", kind, 2);
    }

    private static void wrongArgument() {
        StackReal s = new StackReal();
        s.operate(3, 0);
        String before = Seen.all(s);
        checks.illegal("operate(16, 0)", () -> s.operate(16, 0));
        checks.illegal("load(8, 0)", () -> s.load(8, 0));
        checks.illegal("store(0, 4)", () -> s.store(0, 4));
        checks.due("what is seen after wrong arguments", Seen.all(s), before);
        checks.due("await() after wrong arguments", s.await(), 20);
    }

    private static void imagesInCells() {
        new Bench(checks).dbl(Double.MIN_VALUE).is("a subnormal DOUBLE", 0.0);
        new Bench(checks).load(1, Bench.SINGLE).is("a subnormal SINGLE", 0.0);
        new Bench(checks).nan().stores("NAN as a DOUBLE", Bench.DOUBLE, 0, 0x7FFFFFFFFFFFFFFFL);
        new Bench(checks).nan().stores("NAN as a SINGLE", Bench.SINGLE, 0, 0x7FFFFFFFL);
        new Bench(checks).whole(-42).stores("-42 as a DECIMAL", Bench.DECIMAL, 0, 0x1000000000000042L);
        new Bench(checks).nan().stores("NAN as a DECIMAL", Bench.DECIMAL, Bench.INVALID, -1L);
        new Bench(checks).infinite(false).stores("an infinite WHOLE", Bench.WHOLE, Bench.INVALID, Long.MIN_VALUE);
        new Bench(checks).dbl(1e15).stores("1e15 as a DECIMAL", Bench.DECIMAL, Bench.INVALID, -1L);
        new Bench(checks).dbl(1e19).stores("1e19 as a WHOLE", Bench.WHOLE, Bench.INVALID, Long.MIN_VALUE);
    }

    /** Each line of the page's examples stands above, in the page's order. */
    private static void examplesAreThoseOfThePage() throws IOException {
        List<String> made = plainLines(Files.readAllLines(SOURCE));
        int place = 0;
        for (String line : plainLines(exampleLines())) {
            int found = made.subList(place, made.size()).indexOf(line);
            checks.isTrue("the example's line is made here: " + line, found >= 0);
            place += found + 1;
        }
    }

    private static List<String> exampleLines() throws IOException {
        List<String> lines = new ArrayList<>();
        boolean inside = false;
        for (String line : Files.readAllLines(README)) {
            if (line.startsWith("```")) {
                inside = line.equals("```java");
            } else if (inside) {
                lines.add(line);
            }
        }
        checks.isTrue("there are examples", lines.size() > 20);
        return lines;
    }

    private static List<String> plainLines(List<String> lines) {
        List<String> plain = new ArrayList<>();
        for (String line : lines) {
            plain.add(line.replaceAll("//.*", "").strip());
        }
        return plain;
    }

    private static void everyCallIsNamed() throws IOException {
        String page = Files.readString(README);
        for (Method method : StackReal.class.getDeclaredMethods()) {
            if (Modifier.isPublic(method.getModifiers())) {
                checks.isTrue("the page names " + method.getName(), page.contains("`" + method.getName() + "("));
            }
        }
    }

    private static void ticksAreThoseOfThePage() throws IOException {
        String page = Files.readString(README);
        Matcher cell = Pattern.compile("\\| (\\d+) \\| [A-Z]{3}[^|]* \\| (\\d+) \\|").matcher(page);
        int operations = 0;
        while (cell.find()) {
            StackReal s = new StackReal();
            s.operate(Integer.parseInt(cell.group(1)), 0);
            checks.due("await() after operation " + cell.group(1), s.await(), Integer.parseInt(cell.group(2)));
            operations++;
        }
        checks.due("operations on the page", operations, 16);
    }
}
