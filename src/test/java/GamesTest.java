/** Promises 14 to 24, of games one by one: ordinary inputs, edges that the document names, wrong inputs. */
public final class GamesTest extends Checks {
    public static void main(String[] args) {
        wouldBe();
        played();
        undone();
        judged();
        rounds();
        standings();
        finish();
    }

    private static void taught(int thrown, int winner, int art, int more) {
        due("game", x.game(0, 1, thrown), winner);
        row(art, more);
    }

    private static void wouldBe() {
        promise = 14;
        fresh("50;23;04!");
        due("first", x.game(0, 2, 0), 0);
        row(0, 1);
        due("second", x.game(2, 0, 0), 1);
        row(0, 1);
        due("drawn", x.game(0, 1, 0), 2);
        row(-1, 0);
        due("first throws", x.game(0, 2, 1), 1);
        row(1, 0);
        due("second throws", x.game(0, 2, 2), 0);
        row(0, 1);
        due("both", x.game(0, 2, 3), 2);
        row(-1, 0);
        int[][] others = {{0, 0, 0}, {0, 3, 0}, {3, 0, 0}, {-1, 0, 0}, {0, -1, 0}, {0, 1, -1}, {0, 1, 4}};
        for (int[] o : others) {
            due("others", x.game(o[0], o[1], o[2]), -1);
            row(-1, 0);
        }
        skills(5, 0, 2, 3, 0, 4);
        points(0, 0, 0);
        due("count(4)", x.count(4), 0);
        taught(2, 0, 0, 1);
        x.law(1, 3);
        taught(2, 0, 0, 3);
        taught(1, 1, 1, 3);
        x.law(1, 2);
        taught(2, 0, 0, 2);
        x.law(0, 1);
        taught(2, 0, 1, 2);
        taught(1, 1, 0, 2);
        x.law(0, 2);
        taught(2, 0, 0, 2);
        taught(1, 1, 1, 2);
        x.law(0, 3);
        taught(2, 0, -1, 0);
        x.law(0, 0);
        x.ill(0, true);
        taught(2, 0, 0, 0);
        wouldBeByLaw();
    }

    private static void wouldBeByLaw() {
        fresh("22;11");
        x.law(1, 3);
        taught(0, 0, 0, 1);
        taught(1, 1, -1, 0);
        x.law(0, 2);
        taught(1, 1, 0, 1);
        fresh("12;01");
        taught(0, 0, 0, 1);
        fresh("13;01");
        taught(0, 0, 1, 1);
        x.law(3, 3);
        taught(0, 2, -1, 0);
        x.law(3, 2);
        taught(0, 0, 1, 1);
        x.law(4, 50);
        for (int k = 0; k < 20; k++) {
            taught(0, 0, 1, 1);
        }
        due("R stays", x.seed(1), 1);
        rule("i");
        x.law(3, 0);
        taught(0, 1, -1, 0);

        promise = 15;
        fresh("50;23;04!");
        due("EDGE 0", x.odds(0, 2), 50);
        x.law(4, 10);
        due("odds", x.odds(0, 2), 60);
        due("odds", x.odds(2, 0), 40);
        due("odds", x.odds(0, 1), 50);
        x.law(4, 50);
        x.law(3, 99);
        due("odds", x.odds(0, 2), 100);
        due("odds", x.odds(2, 0), 0);
        rule("999*i");
        due("odds", x.odds(0, 2), 0);
        due("odds", x.odds(2, 0), 100);
        due("none", x.odds(0, 0), -1);
        due("none", x.odds(0, 3), -1);
        due("none", x.odds(-1, 0), -1);
    }

    private static void played() {
        promise = 16;
        fresh("50;23;04!");
        due("play", x.play(0, 2, 0), 0);
        row(3, 0);
        skills(5, 0, 2, 3, 1, 4);
        due("drawn", x.play(1, 2, 0), 2);
        row(1, 1);
        skills(5, 0, 2, 3, 1, 4);
        due("thrown", x.play(2, 0, 2), 0);
        row(4, 3);
        skills(5, 0, 2, 3, 1, 4);
        due("both", x.play(0, 1, 3), 2);
        row(4, 2);
        int[] thrown = {2, 1, 0};
        for (int side = 0; side < 3; side++) {
            due("thrown", x.of(side, 4), thrown[side]);
        }
        due("raised", x.of(0, 2), 1);
        due("raised", x.of(2, 2), 0);
        int[][] others = {{0, 0, 0}, {0, 3, 0}, {3, 0, 0}, {-1, 0, 0}, {0, -1, 0}, {0, 1, -1}, {0, 1, 4}};
        for (int[] o : others) {
            due("others", x.play(o[0], o[1], o[2]), -1);
            row(4, 2);
        }
        due("count(4)", x.count(4), 4);
        due("R stays", x.seed(1), 1);
        playedByLaw();
        playedByLuck();
    }

    private static void playedByLaw() {
        fresh("50;23");
        x.law(2, 0);
        x.play(0, 1, 2);
        skills(4, 0, 3, 3);
        fresh("70;23");
        x.law(2, 2);
        x.law(1, 3);
        x.play(0, 1, 2);
        skills(7, 0, 5, 3);
        x.play(0, 1, 2);
        skills(7, 0, 7, 3);
        x.play(0, 1, 2);
        skills(7, 0, 7, 3);
        due("raised", x.of(0, 2), 5);
        fresh("50!;23");
        x.law(2, 2);
        x.play(0, 1, 2);
        skills(6, 0, 2, 3);
        due("raised", x.of(0, 2), 0);
        fresh("50;23");
        x.law(0, 1);
        x.play(0, 1, 2);
        skills(5, 1, 2, 3);
        due("raised", x.of(1, 2), 1);
        points(3, 0);
        fresh("50;23");
        x.law(0, 2);
        x.play(0, 1, 2);
        skills(5, 1, 3, 3);
        due("raised", x.of(0, 2), 1);
        due("raised", x.of(1, 2), 1);
        fresh("w1;3;2");
        x.law(0, 2);
        x.law(2, 0);
        x.play(0, 1, 0);
        skills(3, 2);
        due("raised", x.of(0, 2), 1);
        due("raised", x.of(1, 2), 1);
        fresh("50;23");
        x.law(0, 3);
        x.play(0, 1, 2);
        skills(5, 0, 2, 3);
        points(3, 0);
    }

    private static void playedByLuck() {
        fresh("w1;3;2;4");
        x.law(4, 7);
        x.seed(-99);
        int r = -99;
        for (int k = 0; k < 60; k++) {
            int one = k % 3;
            int other = (k + 1 + k % 2) % 3;
            int chance = x.odds(one, other);
            r = r * 1103515245 + 12345;
            due("by luck", x.play(one, other, 0), (r >>> 16) % 100 < chance ? 0 : 1);
            due("thrown: no draw", x.play(one, other, 1), 1);
        }
        due("R", x.seed(1), r);
        fresh("w1;3;3");
        x.law(4, 50);
        x.law(3, 99);
        for (int k = 0; k < 10; k++) {
            due("no draws", x.play(0, 1, 0) == 2, false);
        }
        due("both throw it", x.play(0, 1, 3), 2);
    }

    private static void undone() {
        promise = 17;
        fresh("50;23;04!");
        due("none", x.undo(), -1);
        x.law(4, 10);
        x.play(0, 1, 2);
        x.play(1, 2, 3);
        x.play(0, 2, 0);
        due("undo", x.undo(), 2);
        points(3, 1, 1);
        x.law(4, 0);
        x.ill(0, true);
        due("undo", x.undo(), 1);
        points(3, 0, 0);
        due("thrown", x.of(1, 4), 1);
        due("thrown", x.of(2, 4), 0);
        skills(5, 0, 3, 3, 0, 4);
        due("undo", x.undo(), 0);
        due("thrown", x.of(1, 4), 0);
        due("raised", x.of(0, 2), 0);
        due("ill stays", x.of(0, 3), 1);
        due("law stays", x.law(4, 10), 0);
        skills(5, 0, 2, 3, 0, 4);
        due("none", x.undo(), -1);
        eachUndone();
        fresh("50;23;04!");
        x.seed(12);
        x.law(4, 10);
        x.play(0, 1, 0);
        x.seed(55);
        x.undo();
        due("R", x.seed(1), 12);
        plan("0-1;1-2!");
        x.law(4, 0);
        due("rounds", x.rounds(15), 15);
        due("count(4)", x.count(4), 15);
        due("rounds", x.rounds(6), 6);
        due("20 are kept", x.count(4), 20);
        due("thrown", x.of(2, 4), 10);
        for (int k = 19; k >= 0; k--) {
            due("undo", x.undo(), k);
        }
        due("none", x.undo(), -1);
        due("where the plan is stays", x.count(3), 1);
        points(1, 1, 0);
        due("thrown", x.of(2, 4), 0);
    }

    private static void eachUndone() {
        eachUndone(24, 24 - 8);
        eachUndone(24, 24 - 8 - 6);
        eachUndone(24, 24 - 20);
    }

    /** As it was ahead of the games from this one on, eight at most. */
    private static void eachUndone(int games, int from) {
        fresh("50;23;04");
        x.law(0, 2);
        int[][] ahead = new int[games][];
        for (int k = 0; k < games; k++) {
            ahead[k] = k >= from && k < from + 8 ? all() : null;
            x.play(k % 3, (k + 1) % 3, k % 4);
        }
        for (int k = games - 1; k >= games - 20; k--) {
            due("undo", x.undo(), k - games + 20);
            if (ahead[k] == null) {
                continue;
            }
            due("as it was", java.util.Arrays.equals(all(), ahead[k]), true);
        }
        due("undo", x.undo(), -1);
    }

    private static int[] all() {
        int[] all = new int[21];
        for (int k = 0; k < all.length; k++) {
            all[k] = k < 15 ? x.of(k / 5, k % 5) : x.skill((k - 15) / 2, k % 2);
        }
        return all;
    }

    private static void judged() {
        promise = 18;
        fresh("50;23;04");
        x.seed(3);
        x.law(4, 50);
        due("none told", x.judge(0, -1), -2);
        row(0);
        due("all can be", x.judge(1, 2), -2);
        row(1);
        due("all can be", x.judge(2, 2 | 112 << 10), -2);
        row(2);
        due("all can be", x.judge(3, 212 | 212 << 10 | 212 << 20), -2);
        row(2);
        due("the first", x.judge(3, 21 | 2 << 10), 0);
        row(0);
        due("the second", x.judge(2, 2 | 303 << 10), 1);
        row(1);
        due("the third", x.judge(3, 2 | 1 << 10 | 22 << 20), 2);
        row(1);
        due("no such side", x.judge(1, 3), 0);
        due("what 3", x.judge(1, 301), 0);
        due("above what there is", x.judge(1, 1023), 0);
        due("bits beyond n", x.judge(1, 2 | 1023 << 10 | 3 << 30), -2);
        row(1);
        due("bits below 0", x.judge(3, 1 << 31 | 2 | 2 << 10 | 2 << 20), -2);
        row(1);
        due("another n", x.judge(4, 0), -1);
        due("another n", x.judge(-1, 0), -1);
        row(1);
        skills(5, 0, 2, 3, 0, 4);
        points(0, 0, 0);
        due("R stays", x.seed(1), 3);
        due("count(4)", x.count(4), 0);
        // side 1 wins by its points from the second game on: the first one was thrown to it
        fresh("w1;5;1");
        rule("s+p*9");
        x.law(0, 1);
        due("points count on", x.judge(2, 101 | 1 << 10), -2);
        row(2);
        fresh("w1;5;1;0");
        rule("0-r*9");
        due("raised counts on", x.judge(2, 201 | 1 << 10), -2);
        row(1);
        fresh("w1;3;2");
        x.law(2, 0);
        x.ill(0, true);
        due("less", x.judge(1, 1), -2);
        row(-1);
    }

    private static void rounds() {
        promise = 19;
        fresh("50;23;04!");
        due("no plan", x.rounds(0), -1);
        x.table();
        plan("0-2;0!-1;1!-2!");
        due("none", x.rounds(0), 0);
        row(0, 14);
        due("another", x.rounds(-1), -1);
        due("another", x.rounds(201), -1);
        row(0, 14);
        due("one", x.rounds(1), 1);
        row(0, 15);
        due("count(3)", x.count(3), 1);
        due("two", x.rounds(2), 2);
        row(1, 16);
        due("count(3)", x.count(3), 0);
        points(3, 4, 1);
        due("thrown", x.of(0, 4), 1);
        due("thrown", x.of(1, 4), 1);
        due("thrown", x.of(2, 4), 1);
        plan("0-1");
        due("many", x.rounds(200), 200);
        fresh("w1;1;1;1;1");
        plan("0-1,2-3;0!-2!");
        due("games", x.rounds(3), 5);
        row(5, 4);
        due("count(3)", x.count(3), 1);
        x.law(4, 3);
        int r = 1;
        int[] won = new int[4];
        for (int k = 0; k < 8; k++) {
            if (k % 2 == 1) {
                r = r * 1103515245 + 12345;
                won[(r >>> 16) % 100 < 50 ? 0 : 1] += 3;
                r = r * 1103515245 + 12345;
                won[(r >>> 16) % 100 < 50 ? 2 : 3] += 3;
            }
        }
        due("by luck", x.rounds(8), 12);
        row(4, 4);
        due("R", x.seed(1), r);
        points(7 + won[0], 2 + won[1], 7 + won[2], 2 + won[3]);
    }

    private static void standings() {
        promise = 20;
        fresh("50;23;04;10");
        due("beats", x.beats(0), 4 + 8);
        row(2);
        due("beats", x.beats(3), 0);
        row(0);
        due("beats", x.beats(2), 8);
        row(0);
        x.law(3, 1);
        x.law(4, 50);
        due("beats", x.beats(1), 8);
        row(1 + 4);
        due("none such", x.beats(4), -1);
        due("none such", x.beats(-1), -1);
        row(5);

        promise = 21;
        fresh("");
        due("nobody", x.kings(), 0);
        row(0);
        fresh("50;23;04!");
        due("none", x.kings(), 0);
        row(4);
        league("33");
        due("one", x.kings(), 8);
        row(4);
        x.law(3, 2);
        due("by EVEN", x.kings(), 0);
        row(15);
        fresh("11");
        due("alone", x.kings(), 1);
        row(1);

        promise = 22;
        fresh("");
        due("no sides", x.master(1), -2);
        due("no such art", x.master(2), -1);
        due("no such art", x.master(-1), -1);
        row();
        fresh("50;23;04!;53;01");
        due("master", x.master(0), 0);
        row(5, 1 + 8, 0);
        due("master", x.master(1), 2);
        row(4, 4, 0);
        fresh("w1;7;7");
        due("all", x.master(0), 0);
        row(7, 3, 7);
        due("no such art", x.master(1), -1);
        row(7, 3, 7);
        tables();
    }

    private static void tables() {
        promise = 23;
        fresh("");
        x.kings();
        due("none", x.table(), 0);
        row();
        fresh("00;11;22;20");
        due("by power", x.table(), 4);
        row(2, 1, 3, 0);
        x.play(0, 3, 2);
        due("by points", x.table(), 4);
        row(0, 2, 1, 3);
        x.play(1, 3, 3);
        due("by points", x.table(), 4);
        row(0, 1, 3, 2);
        rule("i");
        due("by power", x.table(), 4);
        row(0, 3, 1, 2);

        promise = 24;
        fresh("");
        x.kings();
        due("none", x.spread(), 0);
        row();
        fresh("22;33;51;00;00");
        due("spread", x.spread(), 6);
        row(1, 3);
        rule("0-999*9*i-999*i");
        due("below 0", x.spread(), 9999);
        row(0, 2);
        rule("5");
        due("equal", x.spread(), 0);
        row(0, 0);
    }
}
