/** Promises 25 to 35, of seasons, luck and orders of play: ordinary inputs, edges, wrong inputs. */
public final class SearchesTest extends Checks {
    private static final String MANY = "w4;0123;7654;2460;1357;7070;0606;5151;3212";

    public static void main(String[] args) {
        seasons();
        soon();
        chances();
        hopes();
        ways();
        strength();
        all();
        next();
        finish();
    }

    private static void seasons() {
        promise = 25;
        fresh("w1;0;2;4");
        due("no plan", x.rest(), -1);
        x.kings();
        plan("0-1;1-2");
        due("rest", x.rest(), 4);
        row(1, 12);
        x.rounds(1);
        skills(1, 2, 4);
        due("from the first round on", x.rest(), 3);
        row(1, 12);
        due("the next round stays", x.count(3), 1);
        due("count(4)", x.count(4), 1);
        // what one gives the other one has more, and gives it back: 2 1, 1 2, 2 1 ..
        fresh("w1;2;1");
        plan("0-1");
        x.law(2, 0);
        due("rest", x.rest(), 0);
        row(2, 3);
        x.law(4, 50);
        x.seed(9);
        due("without luck", x.rest(), 0);
        row(2, 3);
        due("R stays", x.seed(9), 9);
        plan("0-1;0-1");
        due("whole turns", x.rest(), 0);
        row(1, 3);
        skills(2, 1);
        fresh("w1;5;1");
        plan("0!-1!");
        due("at rest", x.rest(), 0);
        row(1, 6);
        // if points counted on, side 0 would go on winning up to 5 5
        fresh("w1;5;1");
        plan("0-1");
        rule("s+p");
        x.play(0, 1, 1);
        due("points as they are now", x.rest(), 1);
        row(1, 7);
        points(0, 3);

        promise = 26;
        fresh("w1;2;1");
        plan("0-1");
        due("mean", x.mean(0, 0), 0);
        row(2, 1);
        x.law(2, 0);
        due("mean", x.mean(0, 0), 0);
        row(3, 2);
        due("mean", x.mean(1, 0), 0);
        row(3, 2);
        due("no such side", x.mean(2, 0), -1);
        due("no such side", x.mean(-1, 0), -1);
        due("no such art", x.mean(0, 1), -1);
        due("no such art", x.mean(0, -1), -1);
        row(3, 2);
        fresh("00;00");
        plan("0-1");
        due("mean", x.mean(0, 1), 0);
        row(0, 1);
        plan("");
        due("no plan", x.mean(0, 1), -1);
        // the tail is left aside: 0 2 rises to 2 2
        fresh("w1;0;2");
        plan("0-1");
        due("mean", x.mean(0, 0), 0);
        row(2, 1);
    }

    private static void soon() {
        promise = 27;
        fresh("w1;0;2;4");
        due("no plan", x.soon(0, 0, 0), -1);
        plan("0-1;1-2");
        due("now", x.soon(0, 0, 0), 0);
        due("now", x.soon(2, 0, 4), 0);
        int[] turns = {0, 1, 2, 3, 4, -2, -2, -2};
        for (int v = 0; v < 8; v++) {
            due("soon", x.soon(0, 0, v), turns[v]);
        }
        due("others", x.soon(0, 0, 8), -1);
        due("others", x.soon(0, 0, -1), -1);
        due("others", x.soon(3, 0, 1), -1);
        due("others", x.soon(-1, 0, 1), -1);
        due("others", x.soon(0, 1, 1), -1);
        due("others", x.soon(0, -1, 1), -1);
        row();
        // within the first turn side 0 has 3, behind it no more
        fresh("w1;2;3;1");
        x.law(2, 0);
        plan("0-1;0-2");
        due("behind a turn", x.soon(0, 0, 3), -2);
        due("behind a turn", x.soon(2, 0, 2), 1);
        longSeasons();
    }

    /** Seven or eight sides, each with each, by what each does best: a STATE comes again late, or not in 2000 turns. */
    private static void longSeasons() {
        longSeason("w4;0462;3334;6263;2046;6046;0600;6462;0553", 3, 2);
        promise = 25;
        due("late", x.rest(), 11);
        row(1984, 159);
        promise = 26;
        due("late", x.mean(0, 0), 0);
        row(165, 32);
        promise = 27;
        due("late", x.soon(7, 3, 6), 14);
        due("never", x.soon(7, 3, 7), -2);
        longSeason("w3;703;523;767;066;560;505;205", 3, 1);
        x.kings();
        promise = 25;
        due("too late", x.rest(), -3);
        promise = 26;
        due("too late", x.mean(0, 0), -3);
        due("no such side", x.mean(7, 0), -1);
        promise = 27;
        due("found ahead of that", x.soon(1, 1, 5), 7);
        due("too late", x.soon(1, 1, 6), -3);
        due("others", x.soon(1, 1, 8), -1);
        due("the row stays", x.count(6), 1);
    }

    private static void longSeason(String sides, int up, int even) {
        fresh(sides);
        rule("m*9-s");
        x.law(1, up);
        x.law(2, 0);
        x.law(3, even);
        x.circle();
    }

    private static void won(int side, int n, int k, long upper, long lower) {
        due("wins", x.wins(side, n, k), 0);
        row(upper, lower);
    }

    private static void chances() {
        promise = 28;
        fresh("w1;1;2;3");
        due("no plan", x.wins(0, 1, 1), -1);
        x.kings();
        plan("0-1;1-2!");
        int[][] others = {{0, 0, 0}, {0, 7, 0}, {0, 1, 2}, {0, 1, -1}, {3, 1, 0}, {-1, 1, 0}, {0, -1, 0}};
        for (int[] o : others) {
            due("others", x.wins(o[0], o[1], o[2]), -1);
        }
        row(1);
        won(0, 1, 1, 1, 2);
        won(0, 6, 6, 0, 1);
        won(0, 6, 3, 1, 8);
        won(1, 2, 0, 0, 1);
        won(1, 2, 1, 1, 2);
        won(1, 2, 2, 1, 2);
        won(1, 6, 3, 1, 8);
        x.law(4, 10);
        won(0, 1, 1, 2, 5);
        won(0, 1, 0, 3, 5);
        won(1, 2, 2, 3, 5);
        won(2, 2, 0, 1, 1);
        x.law(0, 3);
        won(0, 3, 2, 4, 25);
        won(0, 5, 1, 54, 125);
        x.rounds(1);
        due("from the first round on", x.count(3), 1);
        won(0, 1, 1, 2, 5);
        // all ways of 6 games sum to 1
        plan("0-1;1-2;2-0");
        x.law(0, 0);
        x.law(4, 3);
        long sum = 0;
        for (int k = 0; k <= 6; k++) {
            due("wins", x.wins(2, 6, k), 0);
            sum += x.row(0) * (1000000000000L / x.row(1));
        }
        due("sum", sum, 1000000000000L);
        fresh("w1;1;2");
        plan("0!-1!;0-1");
        won(0, 1, 1, 0, 1);
        won(0, 1, 0, 1, 1);
        won(1, 2, 1, 1, 2);
        rule("p");
        x.law(4, 50);
        plan("0-1");
        won(0, 1, 1, 1, 2);
        won(0, 2, 2, 1, 2);
        won(0, 2, 1, 0, 1);
        won(0, 6, 0, 1, 2);
        rule("r*9");
        // only side 1 can raise, once: with that it wins for ever
        won(1, 2, 0, 1, 4);
        won(1, 2, 1, 1, 4);
        won(1, 2, 2, 1, 2);
        points(0, 0);
        due("R stays", x.seed(1), 1);
    }

    private static void hopes() {
        promise = 29;
        fresh("w1;1;3");
        due("no plan", x.hopes(1), -1);
        plan("0-1");
        due("hopes", x.hopes(1), 0);
        row(9, 2, 4, 5);
        due("hopes", x.hopes(2), 0);
        row(5, 1, 4, 6);
        due("others", x.hopes(0), -1);
        due("others", x.hopes(7), -1);
        due("others", x.hopes(-1), -1);
        row(5, 1, 4, 6);
        due("hopes", x.hopes(6), 0);
        row(47, 8, 4, 6);
        x.law(4, 25);
        due("what can't be is left aside", x.hopes(2), 0);
        // 2 apart: side 1 wins for sure; then 1 apart: with a chance of 3 in 4
        row(23, 4, 5, 6);
        plan("0!-1");
        due("thrown", x.hopes(3), 0);
        row(6, 1, 6, 6);
        plan("0!-1!");
        due("thrown", x.hopes(3), 0);
        row(4, 1, 4, 4);
        skills(1, 3);
        points(0, 0);
        x.law(2, 0);
        x.ill(1, true);
        plan("0!-1");
        due("less", x.hopes(2), 0);
        row(2, 1, 2, 2);
        fresh("w1;0;0");
        plan("0-1");
        due("nothing", x.hopes(3), 0);
        row(0, 1, 0, 0);
    }

    private static void ways() {
        promise = 30;
        fresh("w1;0;2;4");
        due("now", x.top(0, 0, 0), 0);
        row();
        due("now", x.top(2, 0, 4), 0);
        row();
        due("top", x.top(0, 0, 4), 4);
        row(1, 1, 2, 2);
        due("top", x.top(1, 0, 4), 2);
        row(12, 12);
        due("never", x.top(0, 0, 5), -2);
        row(12, 12);
        due("others", x.top(3, 0, 1), -1);
        due("others", x.top(-1, 0, 1), -1);
        due("others", x.top(0, 1, 1), -1);
        due("others", x.top(0, -1, 1), -1);
        due("others", x.top(0, 0, 8), -1);
        due("others", x.top(0, 0, -1), -1);
        x.law(0, 1);
        due("who loses teaches", x.top(0, 0, 2), 2);
        row(201, 201);
        x.law(4, 50);
        due("without luck", x.top(0, 0, 2), 2);
        row(201, 201);
        x.law(0, 3);
        due("nobody teaches", x.top(0, 0, 1), -2);
        fresh("07;70");
        x.law(1, 1);
        due("both", x.top(0, 0, 7), 7);
        row(101, 101, 101, 101, 101, 101, 101);
        due("quick", x.quick(14), 14);
        row(101, 1, 101, 1, 101, 1, 101, 1, 101, 1);
        fresh("w1;0;2;4!");
        due("ill", x.top(0, 0, 3), -2);
        fresh(MANY);
        due("too many", x.top(0, 0, 0), -3);
        due("ahead of it", x.top(8, 0, 0), -1);
        row();

        promise = 31;
        fresh("");
        due("nobody", x.quick(9), 0);
        row();
        fresh("w1;0;2;4");
        due("now", x.quick(0), 0);
        row();
        due("now", x.quick(-5), 0);
        due("quick", x.quick(4), 6);
        row(1, 1, 2, 1, 2, 1);
        due("never", x.quick(5), -2);
        rule("s+p");
        x.play(2, 1, 3);
        x.play(0, 1, 3);
        due("points as they are now", x.quick(5), 5);
        row(1, 1, 2, 2, 1);
        due("points as they are now", x.quick(6), -2);
        row(1, 1, 2, 2, 1);
        fresh(MANY);
        due("too many", x.quick(0), -3);
        row();
    }

    private static void strength() {
        promise = 32;
        fresh("w1;0;2;4");
        int[] powers = {0, 1, 2, 3, 4, 4, 4, 4, 4, 4};
        for (int n = 0; n < 10; n++) {
            due("best", x.best(0, n), powers[n]);
            row(powers[n]);
        }
        due("best", x.best(2, 9), 4);
        row(0);
        due("others", x.best(0, 10), -1);
        due("others", x.best(0, -1), -1);
        due("others", x.best(3, 1), -1);
        due("others", x.best(-1, 1), -1);
        row(0);
        rule("0-9-s");
        due("below 0", x.best(0, 0), -9);
        row(0);
        due("below 0", x.best(2, 3), -13);
        row(0);
        fresh(MANY);
        due("within one game", x.best(0, 0), 6);
        row(0);
        due("too many", x.best(0, 9), -3);
        row(0);

        promise = 33;
        fresh("");
        due("no sides", x.even(1), -1);
        fresh("w1;0;2;4");
        int[] gaps = {4, 3, 2, 2, 1, 1, 0, 0, 0, 0};
        int[] games = {0, 1, 2, 2, 4, 4, 6, 6, 6, 6};
        for (int n = 0; n < 10; n++) {
            due("even", x.even(n), gaps[n]);
            row(games[n]);
        }
        due("others", x.even(10), -1);
        due("others", x.even(-1), -1);
        row(6);
        fresh(MANY);
        due("now", x.even(0), 22 - 6);
        row(0);
        due("too many", x.even(9), -3);
        row(0);
    }

    private static void all() {
        promise = 34;
        fresh("");
        due("nobody", x.all(), 1);
        row(0, 0, 0);
        fresh("w1;0;2;4");
        due("all", x.all(), 15);
        row(12, 6, 6);
        x.law(4, 50);
        due("without luck", x.all(), 15);
        x.law(0, 3);
        due("nobody teaches", x.all(), 1);
        row(6, 6, 0);
        fresh("w1;2;1");
        x.law(2, 0);
        due("to and fro", x.all(), 2);
        row(3, 3, 1);
        x.ill(0, true);
        x.ill(1, true);
        due("down", x.all(), 2);
        row(3, 2, 1);
        // each side can come to all from what it has up to 7, in any order
        fresh("w1;2;2;3;3;3;7");
        due("4500", x.all(), -3);
        fresh("w1;4;4;4;4;4;7");
        due("all", x.all(), 1024);
        row(42, 27, 15);
        fresh("w1;3;3;3;2;7;7");
        due("all", x.all(), 750);
        fresh("w1;3;3;3;3;4;7");
        due("all", x.all(), 2500);
        fresh("w1;2;3;3;3;4;7");
        due("exactly 3000", x.all(), 3000);
        row(42, 22, 20);
        due("exactly 3000", x.top(0, 0, 7), 5);
        row(1, 4, 5, 5, 5);
        fresh("w1;3;3;3;3;3;7");
        due("3125", x.all(), -3);
        fresh(MANY);
        due("too many", x.all(), -3);
        row();
    }

    private static void next() {
        promise = 35;
        fresh("");
        due("none such", x.next(0), -1);
        league("12");
        due("no games", x.next(0), -2);
        due("none such", x.next(1), -1);
        due("none such", x.next(-1), -1);
        row();
        fresh("w1;0;2;4");
        due("next", x.next(0), 1);
        row(1);
        due("next", x.next(1), 12);
        row(3);
        due("of equal ones the least", x.next(2), 1);
        row(4);
        x.law(0, 1);
        due("thrown", x.next(0), 201);
        row(1);
        x.law(0, 0);
        x.law(2, 0);
        due("who teaches loses it", x.next(1), 12);
        row(3);
        due("who teaches loses it", x.next(2), 1);
        row(4);
        fresh("w1;1;7");
        x.law(2, 2);
        x.law(1, 3);
        due("next", x.next(0), 1);
        row(4);
        rule("0-s");
        due("below 0, with a draw", x.next(0), 1);
        row(-1);
        rule("p");
        due("points as they are now", x.next(0), 1);
        row(0);
        skills(1, 7);
        points(0, 0);
        due("count(4)", x.count(4), 0);
    }
}
