import java.io.IOException;
import java.nio.charset.StandardCharsets;
import java.nio.file.Files;
import java.nio.file.Paths;
import java.util.NoSuchElementException;

/** What the tests of the promises share: one object at a time, and what is due of it. */
class Checks {
    static final int TERMS = 0;
    static final int ABOVE_ALL = -1;

    static int wrong = 0;
    static int promise = 0;
    static String sentence = "";
    static String document = "";
    static WinnerTeaches x;

    /** What follows tests these words of the document: they have to stand at its head, in its terms, or in that promise. */
    static void says(int number, String words) {
        promise = number;
        sentence = words;
        if (document.isEmpty()) {
            document = read(System.getProperty("doc", "../shared/DOC.md"));
        }
        String head = number == ABOVE_ALL ? "## What it is" : number == TERMS ? "## Terms" : "## Promise " + number + ":";
        int from = Math.max(0, document.indexOf(head));
        int behind = document.indexOf("\n## ", from);
        if (!document.substring(from, behind < 0 ? document.length() : behind).contains(words)) {
            wrong++;
            System.out.println("not in the document behind '" + head + "': " + words);
        }
    }

    private static String read(String file) {
        try {
            return new String(Files.readAllBytes(Paths.get(file)), StandardCharsets.UTF_8);
        } catch (IOException e) {
            throw new IllegalStateException(file, e);
        }
    }

    static void due(String call, long got, long want) {
        if (got != want) {
            wrong++;
            System.out.println("promise " + promise + ", '" + sentence + "': " + call + " answered " + got + ", due is " + want);
        }
    }

    static void due(String call, boolean got, boolean want) {
        due(call, got ? 1 : 0, want ? 1 : 0);
    }

    static void row(long... want) {
        due("count(6)", x.count(6), want.length);
        for (int i = 0; i < want.length; i++) {
            due("row(" + i + ")", x.row(i), want[i]);
        }
        due("row behind the last", throwsRow(want.length), true);
    }

    static boolean throwsRow(int i) {
        try {
            x.row(i);
            return false;
        } catch (NoSuchElementException e) {
            return true;
        }
    }

    static boolean throwsOf(int side, int what) {
        try {
            x.of(side, what);
            return false;
        } catch (NoSuchElementException e) {
            return true;
        }
    }

    static void text(String t) {
        x.end(0);
        for (int p = 0; p < t.length(); p += 4) {
            int v = 0;
            for (int k = 0; k < 4; k++) {
                v = v << 8 | (p + k < t.length() ? t.charAt(p + k) : 0);
            }
            x.sign(v);
        }
        x.end(t.length());
    }

    static int league(String t) {
        text(t);
        return x.league();
    }

    static int rule(String t) {
        text(t);
        return x.rule();
    }

    static int plan(String t) {
        text(t);
        return x.plan();
    }

    static void fresh(String t) {
        x = new WinnerTeaches();
        if (!t.isEmpty()) {
            due("league() of " + t, league(t) > 0, true);
        }
    }

    static void skills(int... want) {
        for (int k = 0; k < want.length; k++) {
            due("skill(" + k / x.count(1) + ", " + k % x.count(1) + ")", x.skill(k / x.count(1), k % x.count(1)), want[k]);
        }
    }

    static void points(int... want) {
        for (int k = 0; k < want.length; k++) {
            due("of(" + k + ", 1)", x.of(k, 1), want[k]);
        }
    }

    static String times(String t, int n) {
        StringBuilder b = new StringBuilder();
        for (int i = 0; i < n; i++) {
            b.append(t);
        }
        return b.toString();
    }

    static void finish() {
        System.out.println(wrong == 0 ? "all answers are as due" : wrong + " answers are not as due");
        System.exit(wrong == 0 ? 0 : 1);
    }
}
