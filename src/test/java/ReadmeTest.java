import java.lang.reflect.Method;
import java.lang.reflect.Modifier;
import java.nio.charset.StandardCharsets;
import java.nio.file.Files;
import java.nio.file.Path;
import java.util.ArrayList;
import java.util.List;

/** README.md: its example answers as it says, and the page names each call with its arguments. */
final class ReadmeTest {
    private final List<String> example = new ArrayList<>();
    private int at = 1;

    private ReadmeTest() {
    }

    static void run(String path) throws Exception {
        String page = Files.readString(Path.of(path), StandardCharsets.UTF_8);
        ReadmeTest test = new ReadmeTest();
        int from = page.indexOf("```java\n");
        int to = page.indexOf("```", from + 3);
        Check.due("README.md has an example", from >= 0 && to > from, true);
        if (from >= 0 && to > from) {
            test.example.addAll(page.substring(from + 8, to).lines().toList());
            test.example();
        }
        test.names(page);
    }

    private void example() {
        Check.due("it begins with a new object", example.get(0).equals("OathYesterday x = new OathYesterday();"), true);
        OathYesterday x = new OathYesterday();
        line("x.feed(0x74333b65, 0x70303b65, 0x70316631, 0, 0);", x.feed(0x74333b65, 0x70303b65, 0x70316631, 0, 0));
        line("x.text(0);", x.text(0));
        line("x.feed(0x613c6200, 0, 0, 0, 0);", x.feed(0x613c6200, 0, 0, 0, 0));
        line("x.text(1);", x.text(1));
        line("x.swear(4, 0, 3, 20);", x.swear(4, 0, 3, 20));
        line("x.lives(true, OathYesterday.NONE);", x.lives(true, OathYesterday.NONE));
        line("x.lives(true, 2);", x.lives(true, 2));
        line("x.when(1);", x.when(1));
        line("x.odds(0, 2, 1);", x.odds(0, 2, 1));
        line("x.fact(0, 1, true);", x.fact(0, 1, true));
        line("x.likeliest();", x.likeliest());
        line("x.undo();", x.undo());
        Check.due("lines of the example", example.size(), at);
    }

    /** The line is the call, and its comment begins with the answer. */
    private void line(String call, long answer) {
        String told = at < example.size() ? example.get(at) : "";
        boolean fits = told.matches("\\Q" + call + " // " + answer + "\\E\\b.*");
        Check.due("README.md's \"" + told + "\" for " + call + " that answers " + answer, fits, true);
        at++;
    }

    private void names(String page) throws Exception {
        for (Method m : Class.forName("OathYesterday").getDeclaredMethods()) {
            if (Modifier.isPublic(m.getModifiers())) {
                String arguments = "\\w+, ".repeat(Math.max(0, m.getParameterCount() - 1));
                String last = m.getParameterCount() > 0 ? "\\w+" : "";
                boolean named = page.matches("(?s).*`" + m.getName() + "\\(" + arguments + last + "\\)`.*");
                Check.due("README.md names " + m.getName(), named, true);
            }
        }
    }
}
