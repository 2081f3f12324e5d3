import java.io.IOException;
import java.lang.reflect.Method;
import java.lang.reflect.Modifier;
import java.nio.charset.StandardCharsets;
import java.nio.file.Files;
import java.nio.file.Path;

/** README.md: its example answers as it says, and it names every call and every refusal. */
public final class ReadmeTests {
    private ReadmeTests() {
    }

    public static void main(String[] args) throws IOException {
        String readme = Files.readString(Path.of("README.md"), StandardCharsets.UTF_8);
        example();
        exampleIsTheOneTold(readme);
        namesEveryCall(readme);
        namesEveryRefusal(readme);
        Check.close();
    }

    private static void example() {
        PloughTurns x = new PloughTurns();
        for (char b : "d005;c103".toCharArray()) x.type(0, b);  // a dead one at (0, 0), 5 far; one in Canada at (1, 0), 3 far
        for (char b : "0a1;1c5".toCharArray()) x.type(1, b);    // 0 is needed from night 0 on by 1, 1 from night 2 on by 5
        int events = x.event(0, 2, 0);                  // 1: a plough on night 2 in furrow 0
        int who = x.field(2, 1, 0);                     // 1: who is up at (1, 0) behind night 2
        int night = x.met(1);                           // 2: the night on which need 1 is met
        int never = x.met(0);                           // PloughTurns.NONE: need 0 is not
        long above = x.chance(4, 1, 0), below = x.chance(4, 1, 1);  // 1, 4: met by 1 in 4 where each event is by 4 sixteenths
        int refused = x.event(0, 24, 0);                // PloughTurns.BAD: there is no night 24
        int lost = x.lose(0);                           // -11: sheet 0 is lost
        int finding = x.count(8);                       // 1: the latest finding is NULL
        long[] answers = {events, who, night, never, above, below, refused, lost, finding};
        Check.are("the example", answers, 1, 1, 2, PloughTurns.NONE, 1, 4, PloughTurns.BAD, -11, 1);
        Check.is("told as it says", x.gone(1, 1), 1);
        Check.is("told as it says", x.need(1, 2), 5);
    }

    /** Each line of the page's example stands in the method above. */
    private static void exampleIsTheOneTold(String readme) throws IOException {
        String own = Files.readString(Path.of("src/test/java/ReadmeTests.java"), StandardCharsets.UTF_8);
        int from = readme.indexOf("```java\n");
        int to = readme.indexOf("\n```\n", from + 1);
        Check.holds("there is an example", from >= 0 && to > from);
        String[] lines = readme.substring(from + 8, to).split("\n");
        Check.is("lines of the example", lines.length, 11);
        for (String line : lines) {
            Check.holds("a line of the example: " + line, own.contains("\n        " + line + "\n"));
        }
    }

    private static void namesEveryCall(String readme) {
        int calls = 0;
        for (Method m : PloughTurns.class.getDeclaredMethods()) {
            if (Modifier.isPublic(m.getModifiers())) {
                Check.holds("names " + m.getName() + " in the table", takes(readme, m.getName()) == m.getParameterCount());
                calls++;
            }
        }
        Check.is("calls", calls, 37);
    }

    /** How many numbers a call takes by the page, -1 where it is not there. */
    private static int takes(String readme, String name) {
        int from = readme.indexOf("`" + name + "(");
        int to = readme.indexOf(")`", from + 1);
        if (from < 0 || to < 0) {
            return -1;
        }
        String within = readme.substring(from + name.length() + 2, to);
        return within.isEmpty() ? 0 : within.split(",").length;
    }

    private static void namesEveryRefusal(String readme) {
        String[] rows = {"| `BAD` -2 |", "| `NOT` -3 |", "| `FULL` -4 |", "| -11 | finding 1, NULL", "| -12 | finding 2, INDEX",
            "| -13 | finding 3, CAST", "| -14 | finding 4, STORE", "| -15 | finding 5, SIZE", "`NONE` (-1)"};
        for (String row : rows) {
            Check.holds("says " + row, readme.contains(row));
        }
    }
}
