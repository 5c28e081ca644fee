import java.io.IOException;
import java.lang.reflect.Field;
import java.lang.reflect.Method;
import java.lang.reflect.Modifier;
import java.nio.file.Files;
import java.nio.file.Path;
import java.util.ArrayList;
import java.util.List;
import java.util.Set;
import java.util.TreeSet;
import java.util.regex.Matcher;
import java.util.regex.Pattern;

/** README.md: what it says of the use of the class and of running the tests works as it stands there. */
public final class ReadmeTest {
    private static final Due due = new Due();
    private static final Pattern CLASS_NAME = Pattern.compile("public final class (\\w+)");
    private static final Pattern TEST_ROW = Pattern.compile("(?m)^\\| `(\\w+Test)` \\|");
    private static final String RUN_ALL = ".ci/run\n";

    /** What stands between two lines of three signs, with the word behind the first of them. */
    private static final class Block {
        final String kind;
        final StringBuilder text = new StringBuilder();

        Block(String kind) {
            this.kind = kind;
        }
    }

    public static void main(String[] args) throws IOException {
        String readme = Files.readString(Path.of("README.md"));
        List<Block> blocks = blocksOf(readme);
        example(blocks);
        commands(blocks);
        face(readme);
        tests(readme);
        due.end();
    }

    private static void holds(String what, boolean is) {
        due.of(what, is ? 1 : 0, 1);
    }

    private static List<Block> blocksOf(String readme) {
        List<Block> all = new ArrayList<>();
        boolean inside = false;
        for (String line : readme.split("\n", -1)) {
            if (line.startsWith("```")) {
                inside = !inside;
                if (inside) {
                    all.add(new Block(line.substring(3)));
                }
            } else if (inside) {
                all.get(all.size() - 1).text.append(line).append('\n');
            }
        }
        holds("each block has its end", !inside);
        return all;
    }

    private static boolean has(List<Block> blocks, String kind, String part) {
        for (Block block : blocks) {
            if (block.kind.equals(kind) && block.text.indexOf(part) >= 0) {
                return true;
            }
        }
        return false;
    }

    private static void example(List<Block> blocks) {
        due.in("the example");
        holds("a program is shown", has(blocks, "java", "new FaceRounds()"));
        holds("how to compile it is told", has(blocks, "sh", "src/main/java/FaceRounds.java Example.java"));
        holds("what it prints is told", has(blocks, "text", ""));
        holds("how to run all tests is told", has(blocks, "sh", RUN_ALL));
        holds("how to run one test is told", has(blocks, "sh", "src/test/java/"));
        holds("how to run one shared test is told", has(blocks, "sh", "../shared/tests/"));
    }

    /** Runs them one after the other, as a reader does; a text behind commands is what they print. */
    private static void commands(List<Block> blocks) {
        // The other tests of the project would run this one again without an end.
        Checkout checkout = new Checkout(List.of("TextsTest.java"));
        for (int i = 0; i < blocks.size(); i++) {
            String text = blocks.get(i).text.toString();
            due.in("the block that begins with " + text.split("\n")[0]);
            switch (blocks.get(i).kind) {
                case "java":
                    Matcher name = CLASS_NAME.matcher(text);
                    holds("it is a class", name.find());
                    checkout.write(name.group(1) + ".java", text);
                    break;
                case "sh":
                    due.of("exit code", checkout.run(text), 0);
                    if (i + 1 < blocks.size() && blocks.get(i + 1).kind.equals("text")) {
                        due.in("what the block prints:\n" + checkout.printed());
                        holds("it is as told", checkout.printed().equals(blocks.get(i + 1).text.toString()));
                    }
                    break;
                default:
                    holds("it is a text behind commands", i > 0 && blocks.get(i - 1).kind.equals("sh"));
                    break;
            }
        }
        checkout.removeAll();
    }

    private static void face(String readme) {
        due.in("calls and answers");
        for (Method method : FaceRounds.class.getDeclaredMethods()) {
            if (Modifier.isPublic(method.getModifiers())) {
                holds("it names " + method.getName(), readme.contains("`" + method.getName() + "`"));
            }
        }
        for (Field field : FaceRounds.class.getDeclaredFields()) {
            if (Modifier.isPublic(field.getModifiers())) {
                holds("it names " + field.getName(), readme.contains("`" + field.getName() + "`"));
            }
        }
    }

    private static void tests(String readme) throws IOException {
        due.in("the list of tests");
        Set<String> listed = new TreeSet<>();
        Matcher row = TEST_ROW.matcher(readme);
        while (row.find()) {
            holds(row.group(1) + " is listed once", listed.add(row.group(1)));
        }
        for (Path file : Checkout.filesIn(Path.of("src/test/java"))) {
            String name = file.getFileName().toString().replace(".java", "");
            boolean isTest = name.endsWith("Test");
            holds(name + " is told", isTest ? listed.remove(name) : readme.contains("`" + name + ".java`"));
        }
        due.of("tests that are not there: " + listed, listed.size(), 0);
    }
}
