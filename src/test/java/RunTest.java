import java.io.IOException;
import java.nio.file.Files;
import java.nio.file.Path;
import java.util.List;

/** .ci/run: every test of the project and of ../shared/tests is run, and it fails if one of them fails. */
public final class RunTest {
    private static final Due due = new Due();
    private static final String MAIN = "src/main/java/FaceRounds.java";
    private static final String OWN = "src/test/java/";
    private static final String SHARED = "../shared/tests/";

    public static void main(String[] args) throws IOException {
        allPass();
        failing(OWN + "FirstTest.java", "exits with 1", test("FirstTest", "System.exit(1);"));
        failing(OWN + "FirstTest.java", "throws", test("FirstTest", "new int[0][0]++;"));
        failing(OWN + "FirstTest.java", "does not compile", test("FirstTest", "int"));
        failing(SHARED + "First.java", "exits with 1", test("First", "System.exit(1);"));
        failing(SHARED + "First.java", "does not compile", test("First", "new FaceRounds().none();"));
        missing(OWN + "LastTest.java");
        missing(SHARED + "Last.java");
        missing(MAIN);
        brokenPromise();
        due.end();
    }

    private static String test(String name, String more) {
        return "public final class " + name + " { public static void main(String[] args) {\n"
            + "System.out.println(\"" + name + " says \" + new FaceRounds().setUp());\n" + more + "\n} }\n";
    }

    /** One small test of the project and a shared one, which pass. */
    private static Checkout small() {
        Checkout checkout = new Checkout(List.of());
        checkout.remove(SHARED);
        checkout.write(OWN + "LastTest.java", test("LastTest", ""));
        checkout.write(SHARED + "Last.java", test("Last", ""));
        return checkout;
    }

    private static void ran(Checkout checkout, String name) {
        due.of(name + " ran", checkout.printed().contains(name + " says 0") ? 1 : 0, 1);
    }

    private static void allPass() {
        due.in("all pass");
        Checkout checkout = small();
        checkout.write(OWN + "FirstTest.java", test("FirstTest", ""));
        checkout.write(SHARED + "First.java", test("First", ""));
        // From another directory, as it has to find its own one.
        due.of("exit code", checkout.run("here=$(pwd); cd /; \"$here/.ci/run\""), 0);
        for (String name : new String[] {"FirstTest", "LastTest", "First", "Last"}) {
            ran(checkout, name);
        }
        due.of("it tells so", checkout.printed().endsWith("== all 4 tests passed\n") ? 1 : 0, 1);
        checkout.removeAll();
    }

    private static void failing(String file, String why, String text) {
        due.in(file + " " + why);
        Checkout checkout = small();
        checkout.write(file, text);
        due.of("exit code", checkout.run(".ci/run"), 1);
        // Those behind the one that fails are run all the same, and do not hide it.
        ran(checkout, "LastTest");
        ran(checkout, "Last");
        checkout.removeAll();
    }

    private static void missing(String file) {
        due.in("without " + file);
        Checkout checkout = small();
        checkout.remove(file);
        due.of("exit code", checkout.run(".ci/run"), 1);
        checkout.removeAll();
    }

    private static void brokenPromise() throws IOException {
        due.in("a broken promise");
        Checkout checkout = new Checkout(List.of("SettingsTest.java"));
        due.of("exit code as it is", checkout.run(".ci/run"), 0);
        String source = Files.readString(Path.of(MAIN));
        checkout.write(MAIN, source.replace("FIRST_LIMIT = 20;", "FIRST_LIMIT = 21;"));
        due.of("exit code with another first limit", checkout.run(".ci/run"), 1);
        due.of("it names the test", checkout.printed().contains("== SettingsTest failed") ? 1 : 0, 1);
        checkout.removeAll();
    }
}
