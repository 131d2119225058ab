import java.util.NoSuchElementException;
import java.util.Random;

/**
 * Long runs of calls, by a fixed seed, each answer and each ROW held against Oracle. What is asked to
 * compare them makes more than 512 calls of a run: the class counts none of them, so they go on.
 */
public final class RandomRunsTest {
    private static final int CALLS = 500;
    private static int wrong = 0;

    private static Random luck;
    private static WinnerTeaches x;
    private static Oracle o;
    private static StringBuilder run;
    private static int[] asked = new int[45];
    private static int[] refused = new int[45];
    private static int[] below = new int[45];

    public static void main(String[] args) {
        int runs = Integer.getInteger("runs", 150);
        long from = Long.getLong("from", 1);
        for (long k = from; k < from + runs && wrong < 5; k++) {
            luck = new Random(k);
            x = new WinnerTeaches();
            o = new Oracle();
            run = new StringBuilder();
            one(k);
        }
        if (Boolean.getBoolean("tell")) {
            for (int k = 0; k < 45; k++) {
                System.out.println(k + ": " + asked[k] + " calls, " + refused[k] + " -1, " + below[k] + " below that");
            }
        }
        System.out.println(wrong == 0 ? "all answers are as due" : "there are wrong answers");
        System.exit(wrong == 0 ? 0 : 1);
    }

    private static void one(long seed) {
        boolean small = luck.nextInt(4) > 0;
        for (int k = 0; k < CALLS; k++) {
            int which = k < 3 ? k : pick();
            if (!call(which, small) || !sameRow() || !sameSides(k)) {
                System.out.println("seed " + seed + ", call " + k + ":\n" + run);
                wrong++;
                return;
            }
        }
    }

    private static int pick() {
        int which = luck.nextInt(64);
        if (o.sides.size() < 2 && luck.nextInt(4) == 0) {
            return 0;
        }
        if (which == 0 || which == 8 || which == 10 || which == 42) {
            return luck.nextInt(3) == 0 ? which : 13;
        }
        return which < 45 ? which : which < 48 ? 2 : which < 50 ? 1 : which < 56 ? 13 : which % 45;
    }

    /** An argument: mostly one that is there, at times one that is not. */
    private static int arg(int least, int most) {
        return luck.nextInt(25) == 0 ? (luck.nextBoolean() ? least - 1 : most + 1)
                : luck.nextInt(200) == 0 ? luck.nextInt() : least + luck.nextInt(Math.max(1, most - least + 1));
    }

    private static int side() {
        return arg(0, o.sides.size() - 1);
    }

    private static int art() {
        return arg(0, o.arts - 1);
    }

    private static boolean call(int which, boolean small) {
        int a = 0;
        int b = 0;
        int c = 0;
        switch (which) {
            case 0:
                return text(leagueText(small)) && due("league", 3, x.league(), o.league());
            case 1:
                return text(ruleText()) && due("rule", 4, x.rule(), o.rule());
            case 2:
                return text(planText()) && due("plan", 5, x.plan(), o.plan());
            case 3:
                a = luck.nextInt();
                return due("sign " + a, 1, x.sign(a), o.sign(a));
            case 4:
                a = arg(0, o.text.length());
                return due("end " + a, 2, x.end(a) ? 1 : 0, o.end(a) ? 1 : 0);
            case 5:
                a = side();
                b = art();
                return due("skill " + a + " " + b, 6, x.skill(a, b), o.skill(a, b));
            case 6:
                a = side();
                b = arg(0, 4);
                return due("of " + a + " " + b, 7, of(a, b), ofDue(a, b));
            case 7:
                a = arg(0, 4);
                b = a == 3 ? arg(0, luck.nextInt(100)) : a == 4 ? arg(0, luck.nextInt(51)) : arg(0, 3);
                if (a == 3 && luck.nextInt(3) > 0 || a == 4 && luck.nextInt(3) > 0) {
                    b = 0;
                }
                return due("law " + a + " " + b, 8, x.law(a, b), o.law(a, b));
            case 8:
                return sheet();
            case 9:
                a = side();
                boolean is = luck.nextBoolean();
                return due("ill " + a + " " + is, 10, x.ill(a, is) ? 1 : 0, o.ill(a, is) ? 1 : 0);
            case 10:
                a = side();
                b = side();
                return due("swap " + a + " " + b, 11, x.swap(a, b) ? 1 : 0, o.swap(a, b) ? 1 : 0);
            case 11:
                return due("circle", 12, x.circle(), o.circle());
            default:
                return which < 23 ? games(which) : which < 35 ? searches(which) : others(which);
        }
    }

    private static boolean games(int which) {
        int a = side();
        int b = side();
        int c = arg(0, 3);
        switch (which) {
            case 12:
                return due("game " + a + " " + b + " " + c, 13, x.game(a, b, c), o.game(a, b, c));
            case 13:
                return due("play " + a + " " + b + " " + c, 15, x.play(a, b, c), o.play(a, b, c));
            case 14:
                return due("odds " + a + " " + b, 14, x.odds(a, b), o.odds(a, b));
            case 15:
                return due("undo", 16, x.undo(), o.undo());
            case 16:
                int told = code() | code() << 10 | code() << 20 | luck.nextInt() << 30;
                return due("judge " + c + " " + told, 17, x.judge(c, told), o.judge(c, told));
            case 17:
                int n = arg(0, luck.nextInt(5) == 0 ? 200 : 6);
                return due("rounds " + n, 18, x.rounds(n), o.rounds(n));
            case 18:
                return due("beats " + a, 19, x.beats(a), o.beats(a));
            case 19:
                return due("kings", 20, x.kings(), o.kings());
            case 20:
                int art = art();
                return due("master " + art, 21, x.master(art), o.master(art));
            case 21:
                return due("table", 22, x.table(), o.table());
            default:
                return due("spread", 23, x.spread(), o.spread());
        }
    }

    private static int code() {
        int one = luck.nextInt(8);
        int other = luck.nextInt(8);
        if (o.sides.size() > 1 && luck.nextInt(8) > 0) {
            one = luck.nextInt(o.sides.size());
            other = luck.nextInt(o.sides.size());
        }
        if (one > other && luck.nextInt(8) > 0) {
            int t = one;
            one = other;
            other = t;
        }
        return luck.nextInt(16) == 0 ? luck.nextInt(1024) : 100 * luck.nextInt(3) + 10 * one + other;
    }

    private static boolean searches(int which) {
        int a = side();
        int b = art();
        int v = arg(0, 7);
        int n = arg(1, 6);
        int m = arg(0, 9);
        switch (which) {
            case 23:
                return due("rest", 24, x.rest(), o.rest());
            case 24:
                return due("mean " + a + " " + b, 25, x.mean(a, b), o.mean(a, b));
            case 25:
                return due("soon " + a + " " + b + " " + v, 26, x.soon(a, b, v), o.soon(a, b, v));
            case 26:
                int k = arg(0, Math.min(6, Math.max(0, n)));
                return due("wins " + a + " " + n + " " + k, 27, x.wins(a, n, k), o.wins(a, n, k));
            case 27:
                return due("hopes " + n, 28, x.hopes(n), o.hopes(n));
            case 28:
                return due("top " + a + " " + b + " " + v, 29, x.top(a, b, v), o.top(a, b, v));
            case 29:
                int power = luck.nextInt(3) == 0 ? luck.nextInt(400) - 100 : luck.nextInt(10);
                return due("quick " + power, 30, x.quick(power), o.quick(power));
            case 30:
                m = luck.nextBoolean() ? m : luck.nextInt(3);
                return due("best " + a + " " + m, 31, x.best(a, m), o.best(a, m));
            case 31:
                m = luck.nextBoolean() ? m : luck.nextInt(3);
                return due("even " + m, 32, x.even(m), o.even(m));
            case 32:
                return due("all", 33, x.all(), o.all());
            default:
                return due("next " + a, 34, x.next(a), o.next(a));
        }
    }

    private static boolean others(int which) {
        int a = side();
        int b = side();
        int n = arg(0, luck.nextInt(51));
        switch (which) {
            case 35:
                int won = arg(0, 2);
                return due("seen " + a + " " + b + " " + won, 35, x.seen(a, b, won), o.seen(a, b, won));
            case 36:
                return due("found", 36, x.found(), o.found());
            case 37:
                return due("prize", 37, x.prize(), o.prize());
            case 38:
                return due("pays " + a + " " + n, 38, x.pays(a, n), o.pays(a, n));
            case 39:
                return due("laws " + n, 39, x.laws(n), o.laws(n));
            case 40:
                int seed = luck.nextInt();
                return due("seed " + seed, 40, x.seed(seed), o.seed(seed));
            case 41:
                int i = arg(0, 1);
                return due("keep " + i, 41, x.keep(i) ? 1 : 0, o.keep(i) ? 1 : 0);
            case 42:
                int j = arg(0, 1);
                return due("again " + j, 42, x.again(j) ? 1 : 0, o.again(j) ? 1 : 0);
            case 43:
                int what = arg(0, 8);
                return due("count " + what, 43, x.count(what), o.count(what));
            default:
                int at = arg(0, 12);
                return due("row " + at, 44, row(at), rowDue(at));
        }
    }

    private static boolean sheet() {
        int a = art();
        int kind = arg(0, 3);
        int n = luck.nextInt(6) == 0 ? arg(-3, 0) : arg(0, 8);
        int f = luck.nextInt(4) == 0 ? luck.nextInt() : luck.nextInt(12) - 2;
        int step = luck.nextInt(4) == 0 ? luck.nextInt() : luck.nextInt(5) - 2;
        return due("sheet " + a + " " + kind + " " + n + " " + f + " " + step, 9,
                x.sheet(a, kind, n, f, step), o.sheet(a, kind, n, f, step));
    }

    private static final long THROWN = Long.MIN_VALUE;

    private static long of(int a, int b) {
        try {
            return x.of(a, b);
        } catch (NoSuchElementException e) {
            return THROWN;
        }
    }

    private static long ofDue(int a, int b) {
        try {
            return o.of(a, b);
        } catch (NoSuchElementException e) {
            return THROWN;
        }
    }

    private static long row(int i) {
        try {
            return x.row(i);
        } catch (NoSuchElementException e) {
            return THROWN;
        }
    }

    private static long rowDue(int i) {
        try {
            return o.row(i);
        } catch (NoSuchElementException e) {
            return THROWN;
        }
    }

    private static boolean due(String call, int which, long got, long want) {
        asked[which]++;
        refused[which] += want == -1 ? 1 : 0;
        below[which] += want < -1 ? 1 : 0;
        run.append(call).append(" -> ").append(got);
        if (got != want) {
            run.append(", due is ").append(want);
        }
        run.append('\n');
        return got == want;
    }

    private static boolean sameRow() {
        if (x.count(6) != o.count(6)) {
            run.append("row has ").append(x.count(6)).append(", due are ").append(o.count(6));
            return false;
        }
        for (int i = 0; i < o.count(6); i++) {
            if (row(i) != o.row(i)) {
                run.append("row ").append(i).append(" is ").append(row(i)).append(", due is ").append(o.row(i));
                return false;
            }
        }
        return true;
    }

    /** At times all that can be asked of the sides is asked, so that no change stays unseen. */
    private static boolean sameSides(int k) {
        for (int what = 0; what < 9; what++) {
            if (x.count(what) != o.count(what)) {
                run.append("count ").append(what).append(" is ").append(x.count(what));
                return false;
            }
        }
        for (int side = 0; side < 8 && k % 5 == 0; side++) {
            for (int i = 0; i < 5; i++) {
                if (of(side, i) != ofDue(side, i) || x.skill(side, i) != o.skill(side, i)) {
                    run.append("side ").append(side).append(", ").append(i).append(" is ").append(of(side, i));
                    return false;
                }
            }
        }
        return true;
    }

    private static boolean text(String t) {
        x.end(0);
        o.end(0);
        run.append("text ").append(t).append('\n');
        for (int p = 0; p < t.length(); p += 4) {
            int v = 0;
            for (int k = 0; k < 4; k++) {
                v = v << 8 | (p + k < t.length() ? t.charAt(p + k) : 0);
            }
            if (!due("sign " + v, 1, x.sign(v), o.sign(v))) {
                return false;
            }
        }
        return due("end " + t.length(), 2, x.end(t.length()) ? 1 : 0, o.end(t.length()) ? 1 : 0);
    }

    private static String spoilt(String t, String signs) {
        int n = luck.nextInt(12);
        if (n == 0 && !t.isEmpty()) {
            int p = luck.nextInt(t.length());
            char c = luck.nextInt(3) > 0 ? signs.charAt(luck.nextInt(signs.length())) : (char) luck.nextInt(256);
            return t.substring(0, p) + c + t.substring(p + (luck.nextBoolean() ? 1 : 0));
        }
        if (n == 1 && !t.isEmpty()) {
            return t.substring(0, luck.nextInt(t.length()));
        }
        return t.length() > 80 ? t.substring(0, 76 + luck.nextInt(5)) : t;
    }

    private static String leagueText(boolean small) {
        StringBuilder b = new StringBuilder();
        int arts = o.arts;
        if (luck.nextInt(3) > 0 || o.sides.size() > 5) {
            arts = small ? 1 + luck.nextInt(2) : 1 + luck.nextInt(4);
            b.append('w').append(arts);
        }
        int lines = luck.nextInt(8) == 0 ? luck.nextInt(2) : 2 + luck.nextInt(small ? 3 : 6);
        lines += b.length() == 0 && lines == 0 ? 1 : 0;
        lines += luck.nextInt(30) == 0 ? 12 : 0;
        for (int k = 0; k < lines; k++) {
            b.append(b.length() == 0 ? "" : ";");
            for (int a = 0; a < arts; a++) {
                b.append((char) ('0' + luck.nextInt(small ? 4 : 8)));
            }
            b.append(luck.nextInt(6) == 0 ? "!" : "");
        }
        if (luck.nextInt(40) == 0) {
            for (int k = 0; k < 26; k++) {
                b.append(";w").append(1 + luck.nextInt(4));
            }
        }
        return luck.nextInt(40) == 0 ? "" : spoilt(b.toString(), ";w!012345678-\u00e9\0");
    }

    private static String ruleText() {
        return luck.nextInt(5) == 0 ? "" : spoilt(expression(luck.nextInt(4)), "+-*/<>=()0123456789abcdsmlipret\0");
    }

    private static String expression(int depth) {
        if (depth <= 0 || luck.nextInt(5) == 0) {
            String things = "abcdsmlipr";
            String thing = luck.nextInt(3) == 0 ? String.valueOf(luck.nextInt(luck.nextBoolean() ? 1100 : 9))
                    : String.valueOf(things.charAt(luck.nextInt(things.length())));
            return (luck.nextInt(6) == 0 ? "--".substring(luck.nextInt(2)) : "") + thing;
        }
        String joins = "+-*/+-*/<>=";
        String t = expression(depth - 1) + joins.charAt(luck.nextInt(joins.length())) + expression(depth - 1);
        return luck.nextInt(3) == 0 ? "(" + t + ")" : t;
    }

    private static String planText() {
        if (o.sides.size() < 2 || luck.nextInt(30) == 0) {
            return luck.nextBoolean() ? "" : "0-1";
        }
        StringBuilder b = new StringBuilder();
        int rounds = 1 + luck.nextInt(luck.nextInt(6) == 0 ? 15 : 4);
        for (int k = 0; k < rounds; k++) {
            b.append(k == 0 ? "" : ";");
            java.util.List<Integer> free = new java.util.ArrayList<>();
            for (int side = 0; side < o.sides.size(); side++) {
                free.add(side);
            }
            java.util.Collections.shuffle(free, luck);
            int games = 1 + luck.nextInt(free.size() / 2);
            for (int g = 0; g < games; g++) {
                b.append(g == 0 ? "" : ",").append(free.get(2 * g)).append(luck.nextInt(6) == 0 ? "!" : "");
                b.append('-').append(free.get(2 * g + 1)).append(luck.nextInt(6) == 0 ? "!" : "");
            }
        }
        return spoilt(b.toString(), ";,!-0123456789\0");
    }
}
