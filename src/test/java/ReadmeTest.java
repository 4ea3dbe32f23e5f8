import java.io.IOException;
import java.lang.reflect.Method;
import java.lang.reflect.Modifier;
import java.nio.file.Files;
import java.nio.file.Path;
import java.util.ArrayList;
import java.util.List;

/** What README.md shows is what the class does: its example is run, and it names every call. */
public final class ReadmeTest {
    private static final Path README = Path.of("README.md");
    private static final Path SELF = Path.of("src/test/java/ReadmeTest.java");
    private static final String START = "// The example starts.";
    private static final String STOP = "// The example stops.";

    // The target broke with change 5, and change 3 can't be built.
    private static final int BROKE = 5;
    private static final int UNBUILDABLE = 3;

    private ReadmeTest() {
    }

    public static void main(String[] args) throws IOException {
        exampleFindsTheCulprit();
        exampleIsTheReadmes();
        everyCallIsNamed();
        Due.end();
    }

    private static int outcomeIn(int change) {
        if (change == UNBUILDABLE) {
            return 2;
        }
        return change >= BROKE ? 1 : 0;
    }

    private static void exampleFindsTheCulprit() {
        // The example starts.
        CulpritSearch search = new CulpritSearch();
        int last = CulpritSearch.NONE;
        for (int i = 0; i < 8; i++) { // a chain of eight: 0 is the first, 7 the last
            last = search.change(last, CulpritSearch.NONE, CulpritSearch.NONE);
        }

        int target = search.target();
        search.good(target, 0); // known to work in change 0
        search.begin(target, last, 1, 9, 95); // broken in the last; passes 1 of 9 times all the same

        while (search.state(target) == 0) { // 0 goes on, 1 found, 2 stuck, 3 tired
            int change = search.next(target);
            search.answer(target, outcomeIn(change)); // 0 passed, 1 failed, 2 can't be built
        }

        int culprit = search.found(target); // NONE if it wasn't found
        // The example stops.
        Due.is("the example's culprit", culprit, BROKE);
        Due.is("the example skipped", search.counted(target, 1), 1);
        Due.is("the example's state", search.state(target), 1);
    }

    private static void exampleIsTheReadmes() throws IOException {
        List<String> shown = between(README, "```java", "```");
        List<String> run = between(SELF, START, STOP);
        Due.is("the example has lines", run.isEmpty(), false);
        if (!shown.equals(run)) {
            Due.wrong("README.md shows " + shown + ", run was " + run);
        }
    }

    private static void everyCallIsNamed() throws IOException {
        String text = Files.readString(README);
        for (Method each : CulpritSearch.class.getDeclaredMethods()) {
            if (Modifier.isPublic(each.getModifiers())) {
                Due.is("README.md names " + each.getName(), text.contains("`" + each.getName() + "("), true);
            }
        }
        Due.is("README.md tells how the tests are run", text.contains(".ci/run"), true);
    }

    /** The lines between two marks, without the space around them. */
    private static List<String> between(Path file, String start, String stop) throws IOException {
        List<String> lines = new ArrayList<>();
        boolean inside = false;
        for (String line : Files.readAllLines(file)) {
            String bare = line.strip();
            if (inside && bare.equals(stop)) {
                return lines;
            }
            if (inside) {
                lines.add(bare);
            }
            inside = inside || bare.equals(start);
        }
        return lines;
    }
}
