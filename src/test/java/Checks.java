import java.util.NoSuchElementException;

/** What the tests of the promises share: one object at a time, and what is due of it. */
class Checks {
    static int wrong = 0;
    static int promise = 0;
    static WinnerTeaches x;

    static void due(String call, long got, long want) {
        if (got != want) {
            wrong++;
            System.out.println("promise " + promise + ": " + call + " answered " + got + ", due is " + want);
        }
    }

    static void due(String call, boolean got, boolean want) {
        due(call, got ? 1 : 0, want ? 1 : 0);
    }

    static void row(long... want) {
        due("count(6)", x.count(6), want.length);
        for (int i = 0; i < want.length; i++) {
            due("row(" + i + ")", x.row(i), want[i]);
        }
        due("row behind the last", throwsRow(want.length), true);
    }

    static boolean throwsRow(int i) {
        try {
            x.row(i);
            return false;
        } catch (NoSuchElementException e) {
            return true;
        }
    }

    static boolean throwsOf(int side, int what) {
        try {
            x.of(side, what);
            return false;
        } catch (NoSuchElementException e) {
            return true;
        }
    }

    static void text(String t) {
        x.end(0);
        for (int p = 0; p < t.length(); p += 4) {
            int v = 0;
            for (int k = 0; k < 4; k++) {
                v = v << 8 | (p + k < t.length() ? t.charAt(p + k) : 0);
            }
            x.sign(v);
        }
        x.end(t.length());
    }

    static int league(String t) {
        text(t);
        return x.league();
    }

    static int rule(String t) {
        text(t);
        return x.rule();
    }

    static int plan(String t) {
        text(t);
        return x.plan();
    }

    static void fresh(String t) {
        x = new WinnerTeaches();
        if (!t.isEmpty()) {
            due("league() of " + t, league(t) > 0, true);
        }
    }

    static void skills(int... want) {
        for (int k = 0; k < want.length; k++) {
            due("skill(" + k / x.count(1) + ", " + k % x.count(1) + ")", x.skill(k / x.count(1), k % x.count(1)), want[k]);
        }
    }

    static void points(int... want) {
        for (int k = 0; k < want.length; k++) {
            due("of(" + k + ", 1)", x.of(k, 1), want[k]);
        }
    }

    static String times(String t, int n) {
        StringBuilder b = new StringBuilder();
        for (int i = 0; i < n; i++) {
            b.append(t);
        }
        return b.toString();
    }

    static void finish() {
        System.out.println(wrong == 0 ? "all answers are as due" : wrong + " answers are not as due");
        System.exit(wrong == 0 ? 0 : 1);
    }
}
