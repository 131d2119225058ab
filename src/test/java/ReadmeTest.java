import java.io.IOException;
import java.lang.reflect.Method;
import java.lang.reflect.Modifier;
import java.nio.charset.StandardCharsets;
import java.nio.file.Files;
import java.nio.file.Paths;
import java.util.regex.Matcher;
import java.util.regex.Pattern;

/** README.md: each call that it shows answers what stands behind it, and it names each call of the face. */
public final class ReadmeTest extends Checks {
    private static final Pattern SHOWN = Pattern.compile("(?m)^(x\\..*;) +// (-?\\d+|true|false)(: .*)?$");

    private static Matcher lines;

    public static void main(String[] args) throws IOException {
        String file = System.getProperty("readme", "README.md");
        String readme = new String(Files.readAllBytes(Paths.get(file)), StandardCharsets.UTF_8);
        lines = SHOWN.matcher(readme);
        sentence = file;
        example();
        due("lines that no call here stands for", lines.find(), false);
        due("lines that begin so", readme.split("\nx\\.").length - 1, lines.reset().results().count());
        names(readme);
        finish();
    }

    private static void example() {
        x = new WinnerTeaches();
        shows("x.sign('5' << 24 | '0' << 16 | ';' << 8 | '2');", x.sign('5' << 24 | '0' << 16 | ';' << 8 | '2'));
        shows("x.sign('3' << 24 | ';' << 16 | '0' << 8 | '4');", x.sign('3' << 24 | ';' << 16 | '0' << 8 | '4'));
        shows("x.league();", x.league());
        skills(5, 0, 2, 3, 0, 4);
        shows("x.sign('s' << 24 | '+' << 16 | 'a' << 8);", x.sign('s' << 24 | '+' << 16 | 'a' << 8));
        shows("x.end(3);", x.end(3));
        shows("x.rule();", x.rule());
        shows("x.of(0, 0);", x.of(0, 0));
        shows("x.circle();", x.circle());
        shows("x.play(0, 2, 0);", x.play(0, 2, 0));
        shows("x.row(0);", x.row(0));
        shows("x.skill(2, 0);", x.skill(2, 0));
        shows("x.undo();", x.undo());
        shows("x.rounds(1);", x.rounds(1));
        shows("x.top(2, 0, 3);", x.top(2, 0, 3));
        shows("x.row(0);", x.row(0));
        shows("x.all();", x.all());
    }

    /** The next line that README.md shows has to be that call. */
    private static void shows(String call, Object answer) {
        boolean there = lines.find() && lines.group(1).equals(call);
        due("next in README.md is " + call, there, true);
        if (there) {
            due(call + " answers " + answer + ", as README.md tells", lines.group(2).equals(answer.toString()), true);
        }
    }

    private static void names(String readme) {
        for (Method m : WinnerTeaches.class.getDeclaredMethods()) {
            if (Modifier.isPublic(m.getModifiers())) {
                due("README.md names " + m.getName(), readme.contains("`" + m.getName() + "`"), true);
            }
        }
    }
}
