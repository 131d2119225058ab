/** Promises 25 to 35, sentence by sentence: at each boundary, just inside it and just outside it. */
public final class SearchEdgesTest extends Checks {
    private static final String MANY = "w4;0123;7654;2460;1357;7070;0606;5151;3212";
    private static final int[] FAR = {Integer.MIN_VALUE, Integer.MAX_VALUE};

    public static void main(String[] args) {
        rests();
        longRests();
        means();
        soons();
        longSoons();
        wins();
        winsOn();
        hopes();
        tops();
        quicks();
        bests();
        evens();
        alls();
        nexts();
        finish();
    }

    // ---- seasons

    private static void rests() {
        says(25, "How many whole turns of THE PLAN till the first STATE that comes again for ever (behind a whole turn); the ROW: how many "
            + "turns till it comes again, the sum of all SKILLS then.");
        fresh("w1;3;3");
        plan("0-1");
        due("at rest", x.rest(), 0);
        row(1, 6);
        fresh("w1;3;2");
        plan("0-1");
        due("at rest behind one turn", x.rest(), 1);
        row(1, 6);
        fresh("w1;7;0");
        plan("0-1");
        due("at rest behind seven turns", x.rest(), 7);
        row(1, 14);
        plan("0-1;0-1;0-1;0-1;0-1;0-1;0-1");
        due("at rest behind one turn of seven ROUNDS", x.rest(), 1);
        row(1, 14);
        plan("0-1;0-1;0-1;0-1;0-1;0-1");
        due("at rest behind two turns of six ROUNDS", x.rest(), 2);
        row(1, 14);
        x.law(2, 0);
        plan("0-1");
        // 7 0, 6 1, 5 2, 4 3, 3 4, 4 3 ..
        due("to and fro", x.rest(), 3);
        row(2, 7);
        plan("0-1;0-1");
        due("to and fro within a turn", x.rest(), 2);
        row(1, 7);
        plan("0-1;0-1;0-1");
        due("to and fro", x.rest(), 1);
        row(2, 7);
        plan("0!-1!");
        due("nothing changes", x.rest(), 0);
        row(1, 7);

        says(25, "NONE: no PLAN.");
        plan("");
        due("no PLAN", x.rest(), -1);
        row(1, 7);
        fresh("");
        due("no PLAN", x.rest(), -1);
        row();
    }

    private static void season(String sides, String theRule, int up, int even) {
        fresh(sides);
        rule(theRule);
        x.law(1, up);
        x.law(2, 0);
        x.law(3, even);
        x.circle();
    }

    /** SKILLS of all, four ARTS each. */
    private static long state() {
        long state = 0;
        for (int k = 0; k < 4 * x.count(0); k++) {
            state = state * 31 + x.skill(k / 4, k % 4);
        }
        return state;
    }

    private static void turns(int n) {
        int perTurn = x.count(2);
        int atOnce = 200 / perTurn;
        for (int left = n; left > 0; left -= atOnce) {
            x.rounds(Math.min(left, atOnce) * perTurn);
        }
    }

    /** What comes again behind so many turns is the same STATE, played out. */
    private static void comesAgain(int tail, int loop) {
        turns(tail);
        long then = state();
        turns(loop - 1);
        due("not one turn ahead of it", state() == then, false);
        turns(1);
        due("it comes again", state() == then, true);
    }

    private static void longRests() {
        says(25, "-3: not within 2000 turns;");
        season("w4;1742;3735;3101;7567;5420;1717;0472;2031", "m*9-s", 3, 2);
        due("1999 turns", x.rest(), 15);
        row(1984, 160);
        season("w4;7053;3325;0065;0136;2142;4615;0027;4566", "m*99-s*3-l", 3, 4);
        due("2000 turns", x.rest(), 14);
        row(1986, 160);
        comesAgain(14, 1986);
        season("w4;6562;0110;6677;7071;3242;4452;5753;5160", "l*9-s", 2, 1);
        due("2000 turns", x.rest(), 717);
        row(1283, 149);
        comesAgain(717, 1283);
        season("w4;3111;3607;7203;0075;2114;2062;7155", "m*9-s", 3, 3);
        x.kings();
        long kept = x.row(0);
        due("2001 turns", x.rest(), -3);
        due("mean, 2001 turns", x.mean(0, 0), -3);
        row(kept);
        turns(1);
        due("2000 turns, by one that was played", x.rest(), 6);
        row(1994, 131);
        due("mean, 2000 turns", x.mean(0, 0), 0);
        comesAgain(6, 1994);
        season("w4;1040;0514;6041;2454;3166;0020;2426;5404", "m*99-s*3-l", 2, 4);
        due("2001 turns", x.rest(), -3);
        turns(1);
        due("2000 turns, by one that was played", x.rest(), 793);
        row(1207, 117);
        comesAgain(793, 1207);
    }

    private static void means() {
        says(26, "the mean, over the turns that come again, of what it is behind each: the ROW: the fraction. 0;");
        fresh("w1;7;0");
        plan("0-1");
        due("mean", x.mean(0, 0), 0);
        row(7, 1);
        due("mean", x.mean(1, 0), 0);
        row(7, 1);
        x.law(2, 0);
        due("to and fro", x.mean(0, 0), 0);
        row(7, 2);
        due("to and fro", x.mean(1, 0), 0);
        row(7, 2);
        plan("0-1;0-1");
        due("behind whole turns alone", x.mean(0, 0), 0);
        row(3, 1);
        due("behind whole turns alone", x.mean(1, 0), 0);
        row(4, 1);
        fresh("w3;007;000");
        plan("0-1");
        due("nothing", x.mean(1, 0), 0);
        row(0, 1);
        due("the last ART", x.mean(1, 2), 0);
        row(7, 1);

        says(26, "NONE: none such, as rest().");
        int[][] none = {{-1, 0}, {2, 0}, {0, -1}, {0, 3}, {2, 3}, {FAR[0], 0}, {FAR[1], 0}, {0, FAR[0]}, {0, FAR[1]}};
        for (int[] n : none) {
            due("mean(" + n[0] + ", " + n[1] + ")", x.mean(n[0], n[1]), -1);
            row(7, 1);
        }
        due("the first", x.mean(0, 0), 0);
        plan("");
        due("no PLAN", x.mean(0, 0), -1);
        row(0, 1);
        season("w4;3111;3607;7203;0075;2114;2062;7155", "m*9-s", 3, 3);
        due("none such, of 2001 turns", x.mean(7, 0), -1);
        due("none such, of 2001 turns", x.mean(0, 4), -1);
        due("of 2001 turns", x.mean(6, 3), -3);
    }

    private static void soons() {
        says(27, "How many whole turns of THE PLAN till a SIDE has v (0 .. 7) or more in an ART (behind a turn; 0: now): how many. -2: "
            + "never;");
        fresh("w1;6;2");
        plan("0-1");
        int[] turns = {0, 0, 0, 1, 2, 3, 4, -2};
        for (int v = 0; v < 8; v++) {
            due("soon(1, 0, " + v + ")", x.soon(1, 0, v), turns[v]);
            due("soon(0, 0, " + v + ")", x.soon(0, 0, v), v < 7 ? 0 : -2);
        }
        plan("0-1;0-1");
        turns = new int[] {0, 0, 0, 1, 1, 2, 2, -2};
        for (int v = 0; v < 8; v++) {
            due("two ROUNDS: soon(1, 0, " + v + ")", x.soon(1, 0, v), turns[v]);
        }
        fresh("w1;7;0");
        plan("0-1");
        due("7", x.soon(1, 0, 7), 7);
        x.law(2, 0);
        due("what it has now alone", x.soon(0, 0, 7), 0);
        due("4 behind the fourth turn", x.soon(1, 0, 4), 4);
        due("5 never", x.soon(1, 0, 5), -2);

        says(27, "NONE: others, no PLAN.");
        fresh("w3;007;000");
        plan("0-1");
        x.kings();
        int[][] none = {{-1, 0, 0}, {2, 0, 0}, {0, -1, 0}, {0, 3, 0}, {0, 0, -1}, {0, 0, 8}, {0, 2, 8}, {FAR[0], 0, 0}, {FAR[1], 0, 0},
            {0, FAR[0], 0}, {0, FAR[1], 0}, {0, 0, FAR[0]}, {0, 0, FAR[1]}};
        for (int[] n : none) {
            due("soon(" + n[0] + ", " + n[1] + ", " + n[2] + ")", x.soon(n[0], n[1], n[2]), -1);
        }
        due("the last", x.soon(1, 2, 7), 7);
        due("0", x.soon(0, 0, 0), 0);
        due("never", x.soon(1, 0, 1), -2);
        row(2);
        plan("");
        due("no PLAN", x.soon(0, 0, 0), -1);
    }

    private static void longSoons() {
        says(27, "-3: not found within 2000 turns;");
        season("w4;2061;1665;3605;5444;7312;7200;4412;3671", "m*99-a*3-b", 3, 2);
        turns(178);
        due("2002 turns", x.soon(0, 3, 5), -3);
        turns(1);
        due("2001 turns", x.soon(0, 3, 5), -3);
        due("another v", x.soon(0, 3, 8), -1);
        turns(1);
        due("2000 turns", x.soon(0, 3, 5), 2000);
        turns(1);
        due("1999 turns", x.soon(0, 3, 5), 1999);
        turns(1998);
        due("not yet", x.skill(0, 3) < 5, true);
        due("1 turn", x.soon(0, 3, 5), 1);
        turns(1);
        due("now", x.skill(0, 3) >= 5, true);
        due("now", x.soon(0, 3, 5), 0);
        // what never comes: by 2000 turns that is known, as a STATE came again; by 2001 it isn't found
        season("w4;3111;3607;7203;0075;2114;2062;7155", "m*9-s", 3, 3);
        due("2001 turns", x.soon(0, 0, 7), -3);
        turns(1);
        due("2000 turns", x.soon(0, 0, 7), -2);
    }

    // ---- luck, exactly

    private static void won(int side, int n, int k, long upper, long lower) {
        due("wins(" + side + ", " + n + ", " + k + ")", x.wins(side, n, k), 0);
        row(upper, lower);
    }

    private static void wins() {
        says(28, "The chance that a SIDE wins k (0 .. n) of the next n GAMES of THE PLAN (from its first ROUND on; n 1 .. 6) by LUCK");
        fresh("w1;0;1");
        x.law(0, 3);
        plan("0-1");
        won(0, 1, 0, 1, 2);
        won(0, 1, 1, 1, 2);
        won(0, 6, 0, 1, 64);
        won(0, 6, 1, 3, 32);
        won(0, 6, 5, 3, 32);
        won(0, 6, 6, 1, 64);
        x.law(4, 49);
        won(0, 1, 1, 1, 100);
        won(0, 1, 0, 99, 100);
        won(0, 2, 2, 1, 10000);
        won(0, 6, 6, 1, 1000000000000L);
        won(1, 6, 0, 1, 1000000000000L);
        won(0, 6, 5, 6 * 99 / 2, 500000000000L);
        won(1, 6, 6, 99L * 99 * 99 * 99 * 99 * 99, 1000000000000L);
        x.law(4, 50);
        won(0, 1, 1, 0, 1);
        won(1, 6, 6, 1, 1);
        won(1, 6, 5, 0, 1);
        x.law(4, 0);
        x.law(3, 99);
        won(1, 1, 1, 1, 2);

        says(28, "0; NONE: others, no PLAN.");
        int[][] none = {{-1, 1, 1}, {2, 1, 1}, {0, 0, 0}, {0, -1, 0}, {0, 7, 0}, {0, 1, -1}, {0, 1, 2}, {0, 6, 7}, {0, 6, -1}, {0, 0, -1},
            {0, -1, -1}, {FAR[0], 1, 1}, {FAR[1], 1, 1}, {0, FAR[0], 0}, {0, FAR[1], 0}, {0, 1, FAR[0]}, {0, 1, FAR[1]}};
        for (int[] n : none) {
            due("wins(" + n[0] + ", " + n[1] + ", " + n[2] + ")", x.wins(n[0], n[1], n[2]), -1);
            row(1, 2);
        }
        plan("");
        due("no PLAN", x.wins(0, 1, 1), -1);
        row(1, 2);
    }

    private static void winsOn() {
        says(28, "GAMES that are thrown going as they must, POINTS and RAISED counting on: the ROW: the fraction.");
        fresh("w1;0;1;2");
        plan("0!-1;1-2!;0!-2!");
        won(1, 1, 1, 1, 1);
        won(1, 1, 0, 0, 1);
        won(1, 2, 2, 1, 1);
        won(1, 3, 2, 1, 1);
        won(0, 3, 0, 1, 1);
        won(2, 3, 0, 1, 1);
        won(1, 6, 4, 1, 1);
        won(1, 5, 4, 1, 1);
        plan("0-1;1!-2");
        won(2, 2, 1, 1, 1);
        won(2, 6, 3, 1, 1);
        won(1, 2, 1, 1, 2);
        won(1, 2, 2, 0, 1);
        // 3 POINTS more win for sure, RAISED 1 more does too
        fresh("w1;0;0");
        rule("p");
        x.law(4, 50);
        plan("0-1");
        won(0, 6, 6, 1, 2);
        won(0, 6, 1, 0, 1);
        x.law(4, 16);
        won(0, 2, 2, 49, 100);
        won(0, 2, 1, 1, 50);
        fresh("w1;1;0");
        rule("r");
        x.law(4, 10);
        won2();
        x.play(0, 1, 3);
        plan("1!-0!;0-1");
        x.rounds(1);
        due("from the first ROUND on", x.wins(0, 1, 0), 0);
        row(1, 1);
        points(2, 2);
        due("threw", x.of(0, 4), 2);
        due("no DRAW", x.seed(1), 1);
    }

    private static void won2() {
        plan("0-1");
        // if 0 wins it teaches 1, with RAISED 1 its chance is 60; if 1 wins it stays at 50
        won(0, 2, 2, 3, 10);
        won(0, 2, 1, 9, 20);
        won(0, 2, 0, 1, 4);
    }

    private static void hoped(int n, long upper, long lower, long least, long greatest) {
        due("hopes(" + n + ")", x.hopes(n), 0);
        row(upper, lower, least, greatest);
    }

    private static void hopes() {
        says(29, "The mean of the sum of all SKILLS behind the next n GAMES (likewise): the ROW: the fraction, the least, the greatest that "
            + "can be.");
        fresh("w1;0;1");
        plan("0-1");
        hoped(1, 3, 2, 1, 2);
        x.law(4, 49);
        hoped(1, 199, 100, 1, 2);
        x.law(4, 50);
        hoped(1, 2, 1, 2, 2);
        hoped(6, 2, 1, 2, 2);
        x.law(4, 0);
        x.law(0, 2);
        hoped(6, 2, 1, 2, 2);
        fresh("w1;0;7");
        plan("0-1");
        hoped(6, 10, 1, 7, 13);
        hoped(5, 19, 2, 7, 12);
        plan("0-1!;0!-1!");
        hoped(6, 7, 1, 7, 7);
        plan("0!-1;0!-1!");
        hoped(6, 10, 1, 10, 10);
        hoped(5, 10, 1, 10, 10);
        hoped(4, 9, 1, 9, 9);
        fresh("w4;7777;7777;7777;7777;7777;7777;7777;7777");
        x.circle();
        hoped(6, 224, 1, 224, 224);
        fresh("w1;0;0");
        plan("0-1");
        hoped(6, 0, 1, 0, 0);
        // who wins loses what it teaches, and the other one gets nothing
        fresh("w1;1!;0");
        x.law(2, 0);
        plan("0-1");
        hoped(1, 1, 2, 0, 1);
        hoped(6, 1, 64, 0, 1);

        says(29, "0; NONE: others.");
        int[] none = {0, -1, 7, FAR[0], FAR[1]};
        for (int n : none) {
            due("hopes(" + n + ")", x.hopes(n), -1);
            row(1, 64, 0, 1);
        }
        plan("");
        due("no PLAN", x.hopes(1), -1);
        row(1, 64, 0, 1);
    }

    // ---- orders of play

    private static void toppedBy(int side, int art, int v, int games, long... first) {
        due("top(" + side + ", " + art + ", " + v + ")", x.top(side, art, v), games);
        row(first);
    }

    private static void tops() {
        says(30, "The fewest GAMES after which a SIDE has v (0 .. 7) or more in an ART: how many; the ROW: GAMES (the first 10): of as few "
            + "the least row.");
        fresh("77;00");
        toppedBy(0, 0, 7, 0);
        toppedBy(1, 0, 0, 0);
        toppedBy(1, 0, 1, 1, 1);
        toppedBy(1, 1, 1, 2, 1, 1);
        toppedBy(1, 0, 5, 9, 1, 1, 1, 1, 1, 1, 1, 1, 1);
        toppedBy(1, 1, 5, 10, 1, 1, 1, 1, 1, 1, 1, 1, 1, 1);
        toppedBy(1, 0, 6, 11, 1, 1, 1, 1, 1, 1, 1, 1, 1, 1);
        toppedBy(1, 1, 7, 14, 1, 1, 1, 1, 1, 1, 1, 1, 1, 1);
        fresh("w1;0;3;3");
        toppedBy(0, 0, 1, 1, 1);
        toppedBy(0, 0, 2, 2, 1, 1);
        rule("0-a");
        toppedBy(0, 0, 1, 1, 101);
        rule("(i=2)-(i=1)");
        toppedBy(0, 0, 1, 1, 2);
        rule("(i=1)*5+(i=0)");
        toppedBy(0, 0, 3, 3, 1, 1, 1);
        fresh("w1;3;0;3");
        rule("(i=1)*5");
        toppedBy(1, 0, 1, 1, 112);
        rule("(i=1)");
        x.law(0, 1);
        toppedBy(1, 0, 1, 1, 1);

        says(30, "-2: never; -3; NONE: others.");
        fresh("77;66");
        toppedBy(1, 1, 7, 2, 1, 1);
        fresh("w3;076;065");
        x.kings();
        due("never", x.top(1, 0, 1), -2);
        due("never", x.top(1, 2, 7), -2);
        int[][] none = {{-1, 0, 0}, {2, 0, 0}, {0, -1, 0}, {0, 3, 0}, {0, 0, -1}, {0, 0, 8}, {FAR[0], 0, 0}, {FAR[1], 0, 0}, {0, FAR[0], 0},
            {0, FAR[1], 0}, {0, 0, FAR[0]}, {0, 0, FAR[1]}};
        for (int[] n : none) {
            due("top(" + n[0] + ", " + n[1] + ", " + n[2] + ")", x.top(n[0], n[1], n[2]), -1);
        }
        row(2);
        toppedBy(1, 2, 6, 2, 1, 1);
        fresh(MANY);
        due("too many", x.top(0, 0, 0), -3);
        due("too many, whether ever or not", x.top(0, 0, 7), -3);
        due("none such, of too many", x.top(0, 0, 8), -1);
        due("none such, of too many", x.top(0, 4, 0), -1);
        due("none such, of too many", x.top(8, 0, 0), -1);
        due("too many", x.top(7, 3, 7), -3);
        row();
    }

    private static void quickBy(int v, int games, long... first) {
        due("quick(" + v + ")", x.quick(v), games);
        row(first);
    }

    private static void quicks() {
        says(31, "The fewest GAMES after which all SIDES have POWER v or more: likewise.");
        fresh("");
        quickBy(0, 0);
        quickBy(FAR[1], 0);
        fresh("w1;3");
        quickBy(3, 0);
        due("never", x.quick(4), -2);
        fresh("w1;0;1;5");
        quickBy(FAR[0], 0);
        quickBy(-1, 0);
        quickBy(0, 0);
        quickBy(1, 1, 1);
        quickBy(2, 3, 1, 2, 1);
        quickBy(5, 9, 1, 2, 1, 2, 1, 2, 1, 2, 1);
        fresh("w1;0;0;5");
        quickBy(5, 10, 2, 1, 2, 1, 2, 1, 2, 1, 2, 1);
        fresh("w1;1;0;6");
        quickBy(6, 11, 1, 2, 1, 2, 1, 2, 1, 2, 1, 2);

        says(31, "-2, -3.");
        due("more than any has", x.quick(7), -2);
        due("far more", x.quick(FAR[1]), -2);
        row(1, 2, 1, 2, 1, 2, 1, 2, 1, 2);
        rule("0-1");
        quickBy(-1, 0);
        due("above -1", x.quick(0), -2);
        row();
        rule("0-999*99");
        quickBy(-9999, 0);
        due("above -9999", x.quick(-9998), -2);
        fresh(MANY);
        due("too many", x.quick(FAR[0]), -3);
        due("too many", x.quick(FAR[1]), -3);
        row();
    }

    private static void bests() {
        says(32, "The greatest POWER that a SIDE can come to within n GAMES (0 .. 9): it; the ROW: the fewest GAMES for it.");
        fresh("77;00");
        for (int n = 0; n <= 9; n++) {
            due("best(1, " + n + ")", x.best(1, n), n);
            row(n);
            due("best(0, " + n + ")", x.best(0, n), 14);
            row(0);
        }
        int[] below = {-1, -2, -3, -9999};
        fresh("w1;5;1");
        for (int v : below) {
            rule("0-" + Math.min(999, -v) + (v < -999 ? "*99" : ""));
            x.kings();
            due("POWER below 0", x.best(1, 9), v);
            row(0);
        }
        rule("0-s");
        x.law(2, 0);
        due("below 0", x.best(0, 0), -5);
        row(0);
        due("below 0", x.best(0, 3), -3);
        row(2);

        says(32, "-3, NONE: others.");
        int[][] none = {{-1, 0}, {2, 0}, {0, -1}, {0, 10}, {2, 10}, {FAR[0], 0}, {FAR[1], 0}, {0, FAR[0]}, {0, FAR[1]}};
        for (int[] n : none) {
            due("best(" + n[0] + ", " + n[1] + ")", x.best(n[0], n[1]), -1);
            row(2);
        }
        due("the last", x.best(1, 9), 0 - 1);
        row(0);
        fresh(MANY);
        due("now", x.best(7, 0), 8);
        row(0);
        due("within one GAME", x.best(7, 1) > 8, true);
        row(1);
        due("too many", x.best(7, 9), -3);
        due("none such, of too many", x.best(8, 9), -1);
        due("another n, of too many", x.best(7, 10), -1);
        row(1);
    }

    private static void evens() {
        says(33, "The least spread() that can come within n GAMES (0 .. 9): it; the ROW: the fewest GAMES for it.");
        fresh("77;00");
        for (int n = 0; n <= 9; n++) {
            due("even(" + n + ")", x.even(n), 14 - n);
            row(n);
        }
        fresh("w1;3");
        due("one SIDE", x.even(9), 0);
        row(0);
        fresh("w1;5;5");
        due("even now", x.even(9), 0);
        row(0);
        rule("0-999*99");
        due("even below 0", x.even(0), 0);
        fresh("w1;0;4");
        rule("a*999*9-999*20");
        due("the widest", x.even(0), 19998);
        row(0);
        due("nothing gained by one GAME", x.even(1), 19998);
        row(0);
        due("by two", x.even(2), 9999 + 1998);
        row(2);
        due("within four", x.even(9), 0);
        row(4);

        says(33, "-3; NONE: another n, no SIDES.");
        int[] none = {-1, 10, FAR[0], FAR[1]};
        for (int n : none) {
            due("even(" + n + ")", x.even(n), -1);
            row(4);
        }
        fresh(MANY);
        due("too many", x.even(9), -3);
        due("another n, of too many", x.even(10), -1);
        row();
        fresh("");
        due("no SIDES", x.even(0), -1);
        due("no SIDES", x.even(9), -1);
    }

    private static void alls() {
        says(34, "How many STATES can come; the ROW: the greatest, the least sum of all SKILLS of them, the most GAMES that one takes. -3.");
        fresh("");
        due("no SIDES", x.all(), 1);
        row(0, 0, 0);
        fresh("w1;3");
        due("one SIDE", x.all(), 1);
        row(3, 3, 0);
        fresh("w1;3;3");
        due("two of equal SKILL", x.all(), 1);
        row(6, 6, 0);
        fresh("w1;3;4");
        due("one above", x.all(), 2);
        row(8, 7, 1);
        fresh("77;00");
        due("one way", x.all(), 15);
        row(28, 14, 14);
        x.ill(0, true);
        due("ILL", x.all(), 1);
        row(14, 14, 0);
        x.law(2, 0);
        due("ILL, and loses by it", x.all(), 15);
        row(14, 0, 14);
        fresh("w4;7777;7777;7777;7777;7777;7777;7777;7777");
        due("all are full", x.all(), 1);
        row(224, 224, 0);
        x.ill(0, true);
        due("all are full", x.all(), 1);
        fresh(MANY);
        due("too many", x.all(), -3);
        row();
    }

    private static void nexts() {
        says(35, "Of GAMES that could be played now those after which a SIDE has the most POWER; of equal ones the least: that GAME; the ROW: "
            + "POWER then.");
        fresh("w1;3;3;3");
        for (int side = 0; side < 3; side++) {
            due("of equal ones the least", x.next(side), 1);
            row(3);
        }
        // there is nobody else whom it could teach, and gain by it
        x.law(2, 2);
        for (int side = 0; side < 3; side++) {
            due("of equal ones the least", x.next(side), 1);
            row(3);
        }
        fresh("w1;0;0;0;0;0;0;7;1");
        due("the last two", x.next(7), 67);
        row(2);
        rule("0-a");
        due("none makes it more: the least", x.next(7), 1);
        row(-1);
        rule("a+1-2*(i=6)");
        due("taught by who wins", x.next(7), 67);
        row(3);
        x.law(0, 1);
        due("taught by who loses: that one throws it", x.next(7), 167);
        row(3);
        rule("0-1");
        due("below 0", x.next(3), 1);
        row(-1);
        rule("0-2");
        due("below 0", x.next(3), 1);
        row(-2);

        says(35, "-2: there are none; NONE: none such.");
        int[] none = {-1, 8, FAR[0], FAR[1]};
        for (int side : none) {
            due("next(" + side + ")", x.next(side), -1);
            row(-2);
        }
        fresh("");
        due("no SIDES", x.next(0), -1);
        fresh("w1;3");
        due("one SIDE: no GAMES", x.next(0), -2);
        due("none such", x.next(1), -1);
        due("none such", x.next(-1), -1);
        row();
        league("3");
        due("two SIDES", x.next(0), 1);
        row(3);
    }
}
