import java.io.IOException;
import java.lang.reflect.Method;
import java.nio.file.Files;
import java.nio.file.Path;
import java.util.Map;
import java.util.TreeMap;

/** That each promise of the document has a test of its limits that is named after it. */
public final class EdgesCoverTest {
    private static final Class<?>[] EDGES = {TextEdgesTest.class, FieldEdgesTest.class, PlaceEdgesTest.class,
        WashEdgesTest.class, NoteEdgesTest.class};

    public static void main(String[] args) throws IOException {
        Map<Integer, Integer> tests = new TreeMap<>();
        for (Class<?> owner : EDGES) {
            for (Method test : Edges.tests(owner)) {
                tests.merge(Integer.parseInt(test.getName().substring("promise".length(), "promise".length() + 2)), 1,
                    Integer::sum);
            }
        }
        int promises = 0;
        int wrong = 0;
        for (String line : Files.readAllLines(Path.of("../shared/DOC.md"))) {
            if (line.startsWith("## Promise ")) {
                promises++;
                int number = Integer.parseInt(line.substring("## Promise ".length(), line.indexOf(':')));
                if (!tests.containsKey(number)) {
                    wrong++;
                    System.out.println("no test of the limits of promise " + number);
                }
            }
        }
        System.out.println("EdgesCoverTest: " + promises + " promises, " + wrong + " without a test");
        if (wrong != 0 || promises == 0) {
            System.exit(1);
        }
    }
}
