import java.util.ArrayList;
import java.util.List;

/** Promises 36 to 45, and refused calls, sentence by sentence: at each boundary, just inside it and just outside it. */
public final class KeptEdgesTest extends Checks {
    private static final int[] FAR = {Integer.MIN_VALUE, Integer.MAX_VALUE};

    public static void main(String[] args) {
        seen();
        found();
        prizes();
        pays();
        laws();
        seeds();
        keeps();
        agains();
        counts();
        rows();
        refused();
        noneFirst();
        rowStays();
        rowComes();
        finish();
    }

    // ---- who shows, who raises

    private static void seen() {
        says(36, "the first SIDE won (0), the second did (1), nobody (2): how many were told. Refused: others, 12.");
        fresh("w1;3;4;5");
        int[][] others = {{0, 0, 0}, {0, 3, 0}, {3, 0, 0}, {-1, 0, 0}, {0, -1, 0}, {0, 1, -1}, {0, 1, 3}, {FAR[0], 0, 0}, {0, FAR[1], 0},
            {0, 1, FAR[0]}, {0, 1, FAR[1]}, {3, 4, 0}};
        for (int[] s : others) {
            due("seen(" + s[0] + ", " + s[1] + ", " + s[2] + ")", x.seen(s[0], s[1], s[2]), -1);
        }
        due("none", x.count(5), 0);
        due("the first won", x.seen(0, 1, 0), 1);
        due("the second won", x.seen(2, 0, 1), 2);
        due("nobody won", x.seen(2, 1, 2), 3);
        for (int k = 4; k <= 12; k++) {
            due("seen", x.seen(0, 2, 1), k);
            due("count(5)", x.count(5), k);
        }
        for (int won = 0; won <= 2; won++) {
            due("a thirteenth", x.seen(0, 1, won), -1);
        }
        due("twelve", x.count(5), 12);
        points(0, 0, 0);
        skills(3, 4, 5);
        row();
        due("those that can't be", x.found(), 1 + 2 + 4);
        row(3, 1, 2);
    }

    private static void found() {
        says(37, "Of these those (bits) that can't be, by POWER now and without LUCK, unless somebody threw it (told as drawn: both did; else "
            + "who lost did)");
        fresh("w1;3;3;4");
        int[] pairs = {1, 2, 20};
        for (int pair : pairs) {
            for (int won = 0; won <= 2; won++) {
                x.seen(pair / 10, pair % 10, won);
            }
        }
        x.law(4, 50);
        due("equal ones were drawn, who has more won", x.found(), 1 + 2 + 8 + 32 + 128 + 256);
        // 0 lost the second to 1, drew the sixth and the last; 1 lost the first; 2 lost the fourth and the eighth, drew those two
        row(6, 2, 4);
        x.law(3, 1);
        due("1 more is a draw by EVEN 1", x.found(), 1 + 2 + 8 + 16 + 64 + 128);
        row(6, 0, 3);
        x.law(3, 0);
        rule("0-a");
        due("by POWER now", x.found(), 1 + 2 + 16 + 32 + 64 + 256);
        row(6, 0, 5);
        due("no DRAW", x.seed(1), 1);

        says(37, "the ROW: how many, the SIDE that has to have thrown the most of them (the first of equal ones; NONE without), how many.");
        fresh("");
        due("none told", x.found(), 0);
        row(0, -1, 0);
        league("w1;3;4;5");
        due("none told", x.found(), 0);
        row(0, -1, 0);
        x.seen(1, 0, 0);
        due("it can be", x.found(), 0);
        row(0, -1, 0);
        x.seen(2, 1, 1);
        due("2 threw it", x.found(), 2);
        row(1, 2, 1);
        x.seen(1, 2, 2);
        due("both threw it", x.found(), 2 + 4);
        row(2, 2, 2);
        x.seen(0, 1, 0);
        due("of equal ones the first", x.found(), 2 + 4 + 8);
        row(3, 1, 2);
        x.seen(2, 0, 2);
        x.seen(0, 2, 2);
        due("2 threw four", x.found(), 2 + 4 + 8 + 16 + 32);
        row(5, 2, 4);
        fresh("w1;3;4;5");
        x.seen(1, 0, 2);
        due("0 and 1 threw one", x.found(), 1);
        row(1, 0, 1);
        x.seen(2, 1, 2);
        x.seen(2, 0, 2);
        due("each threw two", x.found(), 7);
        row(3, 0, 2);
        fresh("w1;0;0;0;0;0;0;0;7");
        for (int k = 0; k < 12; k++) {
            x.seen(7, k % 7, 1);
        }
        due("all twelve", x.found(), 4095);
        row(12, 7, 12);
    }

    private static void prizes() {
        says(38, "The SIDE with the most RAISED; of equal ones the first: it; the ROW: RAISED, the sum of all. -2: no SIDES.");
        fresh("");
        x.kings();
        due("no SIDES", x.prize(), -2);
        row(0);
        league("w1;7");
        due("one SIDE", x.prize(), 0);
        row(0, 0);
        league("0;0;7");
        due("of equal ones the first", x.prize(), 0);
        row(0, 0);
        x.play(3, 1, 2);
        due("the last", x.prize(), 3);
        row(1, 1);
        x.play(0, 2, 2);
        due("of equal ones the first", x.prize(), 0);
        row(1, 2);
        x.law(1, 3);
        x.play(3, 1, 2);
        due("the most", x.prize(), 3);
        row(4, 5);
        x.undo();
        due("one GAME less", x.prize(), 0);
        row(1, 2);
        fresh("w1;0;0;0;0;0;0;0;7");
        due("eight SIDES", x.prize(), 0);
        row(0, 0);
        x.play(6, 7, 1);
        due("the last of eight", x.prize(), 7);
        row(1, 1);
    }

    private static void paid(int side, int n, int as, int otherwise) {
        due("pays(" + side + ", " + n + ")", x.pays(side, n), as - otherwise);
        row(as, otherwise);
    }

    private static void pays() {
        says(39, "If n ROUNDS (0 .. 50) of THE PLAN were played now, from the next one on, without LUCK: POINTS of a SIDE then, less those it "
            + "would have, if it was ILL the other way round; the ROW: both.");
        fresh("w1;5;1");
        plan("0-1;0!-1!");
        x.law(4, 50);
        paid(0, 0, 0, 0);
        paid(0, 1, 3, 3);
        paid(0, 2, 4, 4);
        // 1 is taught by each win, and has come to 5 behind the fourth one
        paid(0, 8, 16, 16);
        paid(0, 9, 17, 19);
        paid(0, 49, 16 + 41, 25 * 3 + 24);
        paid(0, 50, 16 + 42, 25 * 3 + 25);
        paid(1, 50, 4 + 42, 4 + 42);
        x.ill(0, true);
        paid(0, 9, 19, 17);
        paid(1, 50, 25, 25);
        x.ill(0, false);
        x.rounds(1);
        due("next", x.count(3), 1);
        x.undo();
        paid(0, 1, 1, 1);
        paid(0, 10, 4 * 3 + 1 + 5, 5 * 3 + 5);
        fresh("w1;2;1");
        plan("0-1");
        paid(0, 2, 4, 6);
        x.law(0, 1);
        paid(0, 2, 6, 6);
        x.law(0, 0);
        fresh("w1;0;0;0;0;0;0;1;2");
        plan("6-7");
        paid(7, 2, 4, 6);
        paid(6, 2, 1, 1);
        x.ill(7, true);
        paid(7, 2, 6, 4);
        fresh("w1;2;1");
        plan("0-1");
        paid(0, 2, 4, 6);

        says(39, "Nothing changes. NONE: others, no PLAN.");
        int[][] others = {{-1, 1}, {2, 1}, {0, -1}, {0, 51}, {2, 51}, {FAR[0], 1}, {FAR[1], 1}, {0, FAR[0]}, {0, FAR[1]}};
        for (int[] p : others) {
            due("pays(" + p[0] + ", " + p[1] + ")", x.pays(p[0], p[1]), -1);
            row(4, 6);
        }
        points(0, 0);
        skills(2, 1);
        due("ILL", x.of(0, 3), 0);
        due("next", x.count(3), 0);
        due("undone", x.count(4), 0);
        plan("");
        due("no PLAN", x.pays(0, 0), -1);
        row(4, 6);
    }

    private static void laws() {
        says(40, "The same for each sort 0 .. 3 of THE LAW: the first with the greatest sum of all SKILLS then; the ROW: these sums.");
        fresh("w1;5;1");
        plan("0-1;0!-1");
        x.law(4, 50);
        due("none", x.laws(0), 0);
        row(6, 6, 6, 6);
        due("one", x.laws(1), 0);
        row(7, 6, 7, 6);
        due("two: thrown by who has more", x.laws(2), 2);
        row(7, 7, 8, 6);
        due("49", x.laws(49), 0);
        row(10, 10, 10, 6);
        due("50", x.laws(50), 0);
        row(10, 10, 10, 6);
        x.rounds(1);
        x.undo();
        due("from the next one on", x.laws(1), 1);
        row(6, 7, 7, 6);
        x.law(2, 0);
        due("all alike", x.laws(1), 0);
        row(6, 6, 6, 6);
        x.ill(0, true);
        due("less", x.laws(1), 0);
        row(6, 5, 5, 6);
        plan("0-1");
        due("the second is the first with the greatest", x.laws(1), 1);
        row(5, 6, 5, 6);
        fresh("w1;5;1!");
        plan("0-1");
        x.law(2, 0);
        x.ill(0, true);
        rule("a*2-9*(i=0)");
        due("by the rule", x.laws(2), 0);
        row(6, 4, 4, 6);

        says(40, "Nothing changes. NONE: another n, no PLAN.");
        int[] others = {-1, 51, FAR[0], FAR[1]};
        for (int sort = 0; sort <= 3; sort++) {
            x.law(0, sort);
            for (int n : others) {
                due("laws(" + n + ")", x.laws(n), -1);
                row(6, 4, 4, 6);
            }
            due("laws", x.laws(2), 0);
            due("the sort stays", x.law(0, sort), sort);
        }
        skills(5, 1);
        points(0, 0);
        due("next", x.count(3), 0);
        due("undone", x.count(4), 0);
        plan("");
        due("no PLAN", x.laws(0), -1);
        row(6, 4, 4, 6);
    }

    // ---- kept

    private static void seeds() {
        says(41, "R becomes v: what it was.");
        fresh("");
        int[] seeds = {1, 0, -1, FAR[0], FAR[1], -1, 0, 1};
        for (int k = 1; k < seeds.length; k++) {
            due("seed(" + seeds[k] + ")", x.seed(seeds[k]), seeds[k - 1]);
        }
    }

    private static void keeps() {
        says(42, "SKILLS, POINTS, RAISED, ILL and thrown ones, THE LAW, where THE PLAN is, R are kept under a number 0 .. 1: true. Refused: "
            + "others.");
        fresh("w1;5;1");
        int[] others = {-1, 2, FAR[0], FAR[1]};
        for (int i : others) {
            due("keep(" + i + ")", x.keep(i), false);
            due("again(" + i + ")", x.again(i), false);
        }
        due("nothing kept", x.again(0), false);
        due("nothing kept", x.again(1), false);
        due("keep(0)", x.keep(0), true);
        due("nothing kept", x.again(1), false);
        due("keep(1)", x.keep(1), true);
        int[] least = {0, 1, 0, 0, 0};
        int[] most = {3, 3, 2, 99, 50};
        for (int what = 0; what < 5; what++) {
            x.law(what, least[what]);
        }
        plan("0!-1;1!-0;0-1");
        x.rounds(2);
        x.seed(5);
        x.keep(0);
        for (int what = 0; what < 5; what++) {
            x.law(what, most[what]);
        }
        x.law(0, 2);
        x.ill(1, true);
        x.rounds(2);
        x.seed(6);
        x.keep(1);
        int[] skills = {x.skill(0, 0), x.skill(1, 0)};
        long[] of = ofs();
        for (int times = 0; times < 2; times++) {
            due("again(0)", x.again(0), true);
            skills(4, 2);
            points(3, 3);
            due("RAISED", x.of(0, 2), 1);
            due("ILL", x.of(1, 3), 0);
            due("threw", x.of(0, 4), 1);
            due("next", x.count(3), 2);
            due("R", x.seed(5), 5);
            for (int what = 0; what < 5; what++) {
                due("THE LAW", x.law(what, least[what]), least[what]);
            }
            due("again(1)", x.again(1), true);
            skills(skills);
            due("as kept", java.util.Arrays.equals(ofs(), of), true);
            due("ILL", x.of(1, 3), 1);
            due("threw", x.of(0, 4), 2);
            due("next", x.count(3), 1);
            due("R", x.seed(6), 6);
            for (int what = 1; what < 5; what++) {
                due("THE LAW", x.law(what, most[what]), most[what]);
            }
            due("THE LAW", x.law(0, 2), 2);
        }
    }

    private static long[] ofs() {
        long[] of = new long[2 * 5];
        for (int k = 0; k < of.length; k++) {
            of[k] = x.of(k / 5, k % 5);
        }
        return of;
    }

    private static void agains() {
        says(43, "(of another PLAN told since the next ROUND is that number % ROUNDS, 0 without one).");
        fresh("w1;5;1;0");
        plan("0-1;1-2;2-0;0-1;1-2");
        x.rounds(4);
        x.keep(0);
        int[] rounds = {1, 2, 3, 4, 5, 6, 12};
        for (int n : rounds) {
            due("another PLAN", plan(times("0-1;", n - 1) + "1-2"), n);
            due("from its first ROUND on", x.count(3), 0);
            x.again(0);
            due("next of " + n, x.count(3), 4 % n);
        }
        plan("");
        due("again", x.again(0), true);
        due("without a PLAN", x.count(3), 0);
        x.circle();
        x.again(0);
        due("next of a circle", x.count(3), 1);
        due("THE PLAN stays", x.count(2), 3);
        fresh("w1;5;1");
        x.keep(0);
        plan("0-1;1-0");
        x.rounds(1);
        due("kept without a PLAN", x.again(0), true);
        due("next", x.count(3), 0);

        says(43, "Refused: nothing kept, SIDES or ARTS were told since.");
        String[] texts = {"", "8", "x", "w9", "11", "w2", "w2;11", "w1"};
        for (String t : texts) {
            for (int i = 0; i < 2; i++) {
                fresh("50;23");
                x.keep(i);
                boolean told = league(t) > 0;
                due("again behind " + t, x.again(i), !told);
                due("nothing kept there", x.again(1 - i), false);
                x.keep(1 - i);
                due("kept since", x.again(1 - i), true);
                due("again behind " + t, x.again(i), !told);
            }
        }
        fresh("50;23");
        rule("a*9");
        x.keep(0);
        rule("b*9");
        x.seen(0, 1, 0);
        x.sign(0);
        x.kings();
        due("again", x.again(0), true);
        due("THE RULE is not kept", x.of(1, 0), 27);
        due("what was seen is not kept", x.count(5), 1);
        due("THE TEXT is not kept", x.count(7), 4);
        row(1);
    }

    private static void counts() {
        says(44, "What 0: SIDES, 1: ARTS, 2: ROUNDS of THE PLAN, 3: the next ROUND of it (0 ..), 4: GAMES that can be undone, 5: how many "
            + "were seen, 6: numbers of the ROW, 7: signs of THE TEXT, 8: GAMES of THE PLAN. NONE for another what.");
        fresh("w3;123;456;700;000;111;111;111;111");
        x.circle();
        x.rounds(20);
        for (int k = 0; k < 12; k++) {
            x.seen(0, 1, 0);
        }
        for (int k = 0; k < 20; k++) {
            x.sign(0);
        }
        int[] due = {8, 3, 7, 6, 20, 12, 2, 80, 28};
        for (int what = 0; what < due.length; what++) {
            due("count(" + what + ")", x.count(what), due[what]);
        }
        x.rounds(1);
        due("behind the last ROUND", x.count(3), 0);
        x.table();
        due("count(6)", x.count(6), 8);
        int[] others = {-1, 9, FAR[0], FAR[1]};
        for (int what : others) {
            due("count(" + what + ")", x.count(what), -1);
        }
        fresh("77;00");
        x.top(1, 1, 7);
        due("the most numbers of a ROW", x.count(6), 10);
    }

    private static void rows() {
        says(45, "Number i of the ROW. NoSuchElementException: none such.");
        fresh("");
        int[] wrong = {-1, 0, 1, 9, 10, FAR[0], FAR[1]};
        for (int i : wrong) {
            due("row(" + i + ")", throwsRow(i), true);
        }
        league("w1;0;1");
        x.kings();
        due("the first", throwsRow(0), false);
        due("the first", x.row(0), 1);
        due("behind the last", throwsRow(1), true);
        due("ahead of the first", throwsRow(-1), true);
        x.spread();
        due("the last", x.row(1), 0);
        due("behind the last", throwsRow(2), true);
        x.laws(1);
        due("behind the last", throwsRow(2), true);
        plan("0-1");
        x.laws(1);
        due("the last", x.row(3), 1);
        due("behind the last", throwsRow(4), true);
        fresh("77;00");
        x.top(1, 1, 7);
        due("the tenth", x.row(9), 1);
        due("behind the tenth", throwsRow(10), true);
        x.table();
        due("the second", x.row(1), 1);
        due("of a longer one ahead of it", throwsRow(2), true);
        x.quick(0);
        due("of an empty one", throwsRow(0), true);
    }

    // ---- refused calls

    private interface Call {
        long on(WinnerTeaches x);
    }

    /** Two objects that were told the same are told apart by none of these calls. */
    private static List<Long> probes(WinnerTeaches t) {
        List<Long> all = new ArrayList<>();
        Call[] asked = {c -> c.count(0), c -> c.count(1), c -> c.count(2), c -> c.count(3), c -> c.count(4), c -> c.count(5),
            c -> c.count(6), c -> c.count(7), c -> c.count(8), c -> c.row(0), c -> c.row(1), c -> c.row(2), c -> c.rule(), c -> c.table(),
            c -> c.found(), c -> c.prize(), c -> c.law(0, 0), c -> c.law(1, 1), c -> c.law(2, 1), c -> c.law(3, 0), c -> c.law(4, 0),
            c -> c.seed(3), c -> c.rest(), c -> c.all()};
        Call[] changed = {c -> c.count(4), c -> c.undo(), c -> c.undo(), c -> c.undo(), c -> c.rounds(2), c -> c.again(0) ? 1 : 0,
            c -> c.seed(4), c -> c.rounds(1), c -> c.again(1) ? 1 : 0, c -> c.seed(5), c -> c.count(3)};
        for (Call call : asked) {
            all.add(call.on(t));
        }
        for (Call call : changed) {
            all.add(call.on(t));
            for (int k = 0; k < 3 * 5; k++) {
                all.add((long) t.of(k / 5, k % 5));
                all.add((long) t.skill(k / 5, k % 5));
            }
        }
        return all;
    }

    private static WinnerTeaches told() {
        fresh("50;23;04!");
        plan("0-1;1-2!;2-0");
        x.law(0, 2);
        x.law(1, 2);
        x.keep(0);
        x.law(4, 9);
        x.rounds(2);
        x.ill(1, true);
        x.keep(1);
        x.seed(77);
        x.play(0, 2, 1);
        x.seen(0, 1, 0);
        x.seen(1, 0, 2);
        rule("a*2+b+p-i");
        x.master(0);
        x.sign('a' << 24 | '+' << 16 | 'p' << 8 | '*');
        x.end(3);
        return x;
    }

    private static void refused() {
        says(TERMS, "Refused calls answer NONE, or false, and change nothing but THE TEXT, which a call that reads it empties.");
        Call[] calls = {c -> c.skill(3, 0), c -> c.skill(0, 2), c -> c.law(0, 4), c -> c.law(1, 0), c -> c.law(1, 4), c -> c.law(2, 3),
            c -> c.law(3, 100), c -> c.law(4, 51), c -> c.law(5, 1), c -> c.sheet(2, 0, 1, 1, 1), c -> c.sheet(0, 4, 1, 1, 1),
            c -> c.sheet(0, 0, 9, 1, 1), c -> c.sheet(0, 3, 9, 1, 1), c -> c.game(0, 0, 0), c -> c.game(0, 3, 0), c -> c.game(0, 1, 4),
            c -> c.odds(0, 0), c -> c.odds(0, 3), c -> c.play(0, 0, 0), c -> c.play(0, 3, 0), c -> c.play(0, 1, 4), c -> c.play(0, 1, -1),
            c -> c.judge(4, 1), c -> c.judge(-1, 1), c -> c.rounds(-1), c -> c.rounds(201), c -> c.beats(3), c -> c.master(2),
            c -> c.mean(3, 0), c -> c.mean(0, 2), c -> c.soon(3, 0, 0), c -> c.soon(0, 2, 0), c -> c.soon(0, 0, 8), c -> c.wins(3, 1, 1),
            c -> c.wins(0, 0, 0), c -> c.wins(0, 7, 1), c -> c.wins(0, 1, 2), c -> c.hopes(0), c -> c.hopes(7), c -> c.top(3, 0, 0),
            c -> c.top(0, 2, 0), c -> c.top(0, 0, 8), c -> c.best(3, 1), c -> c.best(0, 10), c -> c.even(10), c -> c.even(-1),
            c -> c.next(3), c -> c.seen(0, 0, 0), c -> c.seen(0, 3, 0), c -> c.seen(0, 1, 3), c -> c.pays(3, 1), c -> c.pays(0, 51),
            c -> c.laws(51), c -> c.laws(-1), c -> c.count(9)};
        for (int k = 0; k < calls.length; k++) {
            List<Long> due = probes(told());
            told();
            due("refused call " + k, calls[k].on(x), -1);
            due("nothing changed by refused call " + k, probes(x).equals(due), true);
        }
        Call[] falses = {c -> c.end(4) ? 1 : 0, c -> c.end(-1) ? 1 : 0, c -> c.ill(3, true) ? 1 : 0, c -> c.ill(-1, false) ? 1 : 0,
            c -> c.swap(0, 0) ? 1 : 0, c -> c.swap(0, 3) ? 1 : 0, c -> c.swap(-1, 0) ? 1 : 0, c -> c.keep(2) ? 1 : 0,
            c -> c.keep(-1) ? 1 : 0, c -> c.again(2) ? 1 : 0, c -> c.again(-1) ? 1 : 0};
        for (int k = 0; k < falses.length; k++) {
            List<Long> due = probes(told());
            told();
            due("refused false " + k, falses[k].on(x), 0);
            due("nothing changed by refused false " + k, probes(x).equals(due), true);
        }
        textsAreRead();
    }

    private static void textsAreRead() {
        String[] texts = {"50;8", "50;23;04;11;22;33;44;55;66", "w2;9", "a+b+", "(a", "a<b<c", "0-1;0", "3-0", "0-1,1-2"};
        for (int k = 0; k < texts.length; k++) {
            told().end(0);
            List<Long> due = probes(x);
            told();
            text(texts[k]);
            due(texts[k], k < 3 ? x.league() < 0 : k < 6 ? x.rule() < 0 : x.plan() < 0, true);
            due("THE TEXT", x.count(7), 0);
            due("nothing changed by " + texts[k], probes(x).equals(due), true);
        }
        told();
        x.end(0);
        for (int k = 0; k < 20; k++) {
            x.sign('-' << 24);
        }
        due("a refused sign()", x.sign('a' << 24), -1);
        due("THE TEXT stays", x.count(7), 80);
        due("a refused circle()", new WinnerTeaches().circle(), -1);
        due("a refused undo()", new WinnerTeaches().undo(), -1);
    }

    private static void noneFirst() {
        says(TERMS, "NONE is asked ahead of other answers below 0 (what a TEXT tells wrongly aside).");
        fresh("");
        due("no such ART ahead of no SIDES", x.master(2), -1);
        due("no SIDES", x.master(1), -2);
        due("no such SIDE ahead of no GAMES", x.next(0), -1);
        due("no such ART ahead of n below 0", x.sheet(2, 0, -1, 0, 0), -1);
        due("n below 0", x.sheet(1, 0, -1, 0, 0), -2);
        due("another kind ahead of n below 0", x.sheet(1, 5, -1, 0, 0), -1);
        due("n above 8 ahead of missing", x.sheet(1, 3, 9, 0, 0), -1);
        due("missing", x.sheet(1, 3, 8, 0, 0), -3);
        due("wrong at 0", league("x"), -1);
        due("wrong at 1", league("1"), -2);
        due("wrong at 2", league("12x"), -3);
        league("12");
        due("no GAMES", x.next(0), -2);
        due("no such SIDE", x.next(1), -1);
        fresh("w4;0123;7654;2460;1357;7070;0606;5151;3212");
        due("too many", x.top(7, 3, 7), -3);
        due("no such SIDE ahead of too many", x.top(8, 3, 7), -1);
        due("no such ART ahead of too many", x.top(7, 4, 7), -1);
        due("another v ahead of too many", x.top(7, 3, 8), -1);
        due("too many", x.best(7, 9), -3);
        due("another n ahead of too many", x.best(7, 10), -1);
        due("too many", x.even(9), -3);
        due("another n ahead of too many", x.even(10), -1);
    }

    private static void rowStays() {
        says(TERMS, "The ROW stays with NONE and with each number below 0 that tells why there is no answer (-2, -3 ..)");
        fresh("");
        x.kings();
        due("master", x.master(0), -2);
        due("prize", x.prize(), -2);
        row(0);
        league("12");
        due("next", x.next(0), -2);
        row(0);
        fresh("w4;0123;7654;2460;1357;7070;0606;5151;3212");
        x.spread();
        due("top", x.top(0, 0, 0), -3);
        due("quick", x.quick(0), -3);
        due("best", x.best(0, 9), -3);
        due("even", x.even(9), -3);
        due("all", x.all(), -3);
        row(1, 0);
        fresh("w1;3;4");
        x.spread();
        due("top", x.top(0, 0, 5), -2);
        due("quick", x.quick(5), -2);
        plan("0-1");
        due("soon", x.soon(0, 0, 5), -2);
        due("sheet", x.sheet(0, 0, -1, 0, 0), -2);
        due("sheet", x.sheet(0, 3, 0, 0, 0), -3);
        row(1, 0);
    }

    private static void rowComes() {
        says(TERMS, "a number below 0 that is meant as such (below 0, too) comes with its ROW.");
        int[] powers = {-1, -2, -3, -4};
        for (int power : powers) {
            fresh("w1;3;4");
            x.kings();
            rule("0" + power);
            due("best", x.best(0, 9), power);
            row(0);
            x.spread();
            due("next", x.next(0), 1);
            row(power);
        }
        fresh("w1;2;1");
        x.kings();
        due("all can be: -2", x.judge(1, 1), -2);
        row(1);
        plan("0-1");
        due("pays -2", x.pays(0, 2), -2);
        row(4, 6);
        fresh("w1;1;0");
        // taught once, 1 is above 0 by its number; else it draws
        rule("a+i");
        plan("0-1!;0-1");
        due("pays -1", x.pays(0, 2), -1);
        row(3, 4);
        rule("a*2+i");
        due("pays -3", x.pays(0, 2), -3);
        row(3, 6);
    }
}
