import java.io.IOException;
import java.lang.reflect.Field;
import java.lang.reflect.Method;
import java.lang.reflect.Modifier;
import java.nio.file.Files;
import java.nio.file.Path;
import java.util.ArrayList;
import java.util.List;

/** README.md's example answers what stands behind its lines, and README.md names every call and constant. */
public final class ReadmeTest {
    private static final String SOURCE = "src/test/java/ReadmeTest.java";

    private static final List<String> wrong = new ArrayList<>();
    private static String readme = "";

    public static void main(String[] args) throws IOException {
        readme = Files.readString(Path.of("README.md"));
        example();
        exampleIsThisOne();
        namesAreThere();
        wrong.forEach(System.out::println);
        System.out.println(wrong.isEmpty() ? "README.md holds" : wrong.size() + " faults");
        if (!wrong.isEmpty()) {
            System.exit(1);
        }
    }

    /** The answer that README.md tells behind a line of its example. */
    private static void told(String line, int got) {
        int from = readme.indexOf(line);
        int comment = from < 0 ? -1 : readme.indexOf("// ", from);
        int end = comment < 0 ? -1 : readme.indexOf(':', comment);
        String due = end < 0 ? "not there" : readme.substring(comment + 3, end);
        if (!due.equals("" + got)) {
            wrong.add(line + " answers " + got + ", README.md says " + due);
        }
    }

    private static void example() {
        CaptionTallies contest = new CaptionTallies();
        contest.type('N');
        contest.type('o');
        int no = contest.submit(0);
        told("int no = contest.submit(0);", no);
        contest.type('t');
        int not = contest.submit(1);
        told("int not = contest.submit(1);", not);
        told("contest.vote(0, not, no, CaptionTallies.NONE);",
                contest.vote(0, not, no, CaptionTallies.NONE));
        told("contest.vote(1, not, CaptionTallies.NONE, CaptionTallies.NONE);",
                contest.vote(1, not, CaptionTallies.NONE, CaptionTallies.NONE));
        told("contest.score(2, no, 7);", contest.score(2, no, 7));
        told("contest.ranked(0);", contest.ranked(0));
        told("contest.author(1, 1);", contest.author(1, 1));
        told("contest.near(0, 2);", contest.near(0, 2));
        told("contest.join(no, not);", contest.join(no, not));
        told("contest.caption(not, 5);", contest.caption(not, 5));
        told("contest.undo();", contest.undo());
        told("contest.ranked(1);", contest.ranked(1));
    }

    /** A line that only README.md has would not have been run. */
    private static void exampleIsThisOne() throws IOException {
        String source = Files.readString(Path.of(SOURCE));
        for (String line : readme.split("\n")) {
            String code = line.replaceFirst("\\s*//.*", "").trim();
            boolean isExample = line.startsWith("    ") && code.endsWith(";");
            if (isExample && !source.contains(code)) {
                wrong.add("not run: " + code);
            }
        }
    }

    private static void namesAreThere() {
        for (Method method : CaptionTallies.class.getDeclaredMethods()) {
            if (Modifier.isPublic(method.getModifiers())) {
                named(method.getName());
            }
        }
        for (Field field : CaptionTallies.class.getDeclaredFields()) {
            if (Modifier.isPublic(field.getModifiers())) {
                named(field.getName());
            }
        }
    }

    private static void named(String name) {
        if (!readme.contains("`" + name + "`")) {
            wrong.add("not named: " + name);
        }
    }
}
