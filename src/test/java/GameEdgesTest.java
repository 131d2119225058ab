/** Promises 14 to 24, sentence by sentence: at each boundary, just inside it and just outside it. */
public final class GameEdgesTest extends Checks {
    private static final int[][] NO_GAMES = {{0, 0, 0}, {2, 2, 0}, {0, 3, 0}, {3, 0, 0}, {-1, 0, 0}, {0, -1, 0}, {3, 4, 0}, {-1, -2, 0},
        {0, 1, -1}, {0, 1, 4}, {0, 1, Integer.MAX_VALUE}, {0, 1, Integer.MIN_VALUE}, {0, Integer.MAX_VALUE, 0}, {Integer.MIN_VALUE, 0, 0},
        {0, 32, 0}, {0, 0, 4}};

    public static void main(String[] args) {
        wouldBe();
        odds();
        played();
        undone();
        forgotten();
        judged();
        judgedOn();
        rounds();
        beats();
        kings();
        masters();
        tables();
        spreads();
        finish();
    }

    private static void would(int one, int other, int thrown, int result, int art, int more) {
        due("game(" + one + ", " + other + ", " + thrown + ")", x.game(one, other, thrown), result);
        row(art, more);
    }

    private static void wouldBe() {
        says(14, "thrown by those told (0: nobody, 1: the first, 2: the second, 3: both): 0: the first, 1: the second, 2: nobody; the "
            + "ROW: the ART that would be taught first (NONE), how much more the taught one would have in it.");
        fresh("50;14;34");
        would(0, 1, 0, 2, -1, 0);
        would(0, 1, 1, 1, 1, 1);
        would(0, 1, 2, 0, 0, 1);
        would(0, 1, 3, 2, -1, 0);
        would(1, 2, 0, 1, 0, 1);
        would(2, 1, 0, 0, 0, 1);
        would(1, 2, 2, 0, -1, 0);
        would(2, 1, 1, 1, -1, 0);
        would(0, 2, 0, 1, 1, 1);
        x.law(1, 3);
        would(0, 2, 0, 1, 1, 3);
        would(0, 2, 2, 0, 0, 2);
        x.ill(2, true);
        would(0, 2, 0, 1, 1, 0);
        would(0, 2, 2, 0, 0, 2);
        x.law(0, 1);
        would(0, 2, 0, 1, 0, 2);
        would(0, 2, 2, 0, 1, 0);
        x.law(0, 2);
        would(0, 2, 0, 1, 1, 0);
        would(0, 2, 2, 0, 0, 2);
        x.law(0, 3);
        would(0, 2, 0, 1, -1, 0);
        x.law(0, 0);
        x.law(4, 50);
        for (int k = 0; k < 10; k++) {
            would(2, 1, 0, 0, 0, 0);
        }
        skills(5, 0, 1, 4, 3, 4);
        points(0, 0, 0);
        due("no DRAW", x.seed(1), 1);
        due("undone", x.count(4), 0);
        due("threw", x.of(0, 4) + x.of(1, 4) + x.of(2, 4), 0);

        says(14, "NONE: others.");
        for (int[] g : NO_GAMES) {
            due("game(" + g[0] + ", " + g[1] + ", " + g[2] + ")", x.game(g[0], g[1], g[2]), -1);
            row(0, 0);
        }
        due("the last", x.game(2, 0, 3), 2);
        fresh("11");
        due("one SIDE alone", x.game(0, 1, 0), -1);
        row();
    }

    private static void odds() {
        says(15, "The chance in 100 that the first of two unlike SIDES wins by LUCK, if nobody throws it (also with EDGE 0: as 50).");
        fresh("w1;0;1;7");
        due("EDGE 0", x.odds(0, 2), 50);
        due("EDGE 0", x.odds(2, 0), 50);
        x.law(4, 1);
        due("EDGE 1", x.odds(0, 2), 43);
        due("EDGE 1", x.odds(2, 0), 57);
        x.law(4, 7);
        due("EDGE 7", x.odds(0, 2), 1);
        due("EDGE 7", x.odds(2, 0), 99);
        x.law(4, 8);
        due("EDGE 8", x.odds(0, 2), 0);
        due("EDGE 8", x.odds(2, 0), 100);
        x.law(4, 50);
        due("EDGE 50", x.odds(0, 1), 0);
        due("EDGE 50", x.odds(1, 0), 100);
        x.law(3, 99);
        due("EVEN is nothing to it", x.odds(1, 0), 100);

        says(15, "NONE: others.");
        for (int[] g : NO_GAMES) {
            if (g[2] == 0) {
                due("odds(" + g[0] + ", " + g[1] + ")", x.odds(g[0], g[1]), -1);
            }
        }
        due("the last", x.odds(2, 1), 100);
        row();
    }

    private static void played() {
        says(16, "A GAME is played (by LUCK with a DRAW, if EDGE is above 0 and nobody throws it): as game(); the ROW: POINTS of both.");
        fresh("50;14;34");
        x.seed(7);
        due("drawn", x.play(0, 1, 0), 2);
        row(1, 1);
        due("the first throws", x.play(0, 1, 1), 1);
        row(1, 4);
        skills(5, 1, 1, 4, 3, 4);
        due("the second throws", x.play(1, 0, 2), 0);
        row(7, 1);
        skills(5, 2, 1, 4, 3, 4);
        due("both throw", x.play(2, 0, 3), 2);
        row(1, 2);
        due("threw", x.of(0, 4), 3);
        due("threw", x.of(1, 4), 0);
        due("threw", x.of(2, 4), 1);
        due("RAISED", x.of(1, 2), 2);
        due("no DRAW", x.seed(7), 7);
        x.law(4, 1);
        x.play(0, 1, 1);
        x.play(0, 1, 2);
        x.play(0, 1, 3);
        due("no DRAW", x.seed(7), 7);
        x.play(0, 1, 0);
        due("a DRAW", x.seed(7) == 7, false);
        x.law(4, 0);
        x.play(0, 1, 0);
        due("no DRAW", x.seed(7), 7);

        says(16, "NONE: others.");
        fresh("50;14;34");
        x.play(0, 1, 0);
        for (int[] g : NO_GAMES) {
            due("play(" + g[0] + ", " + g[1] + ", " + g[2] + ")", x.play(g[0], g[1], g[2]), -1);
            row(1, 1);
        }
        skills(5, 0, 1, 4, 3, 4);
        points(1, 1, 0);
        due("threw", x.of(0, 4) + x.of(1, 4) + x.of(2, 4), 0);
        due("undone", x.count(4), 1);
    }

    private static void undone() {
        says(17, "The latest GAME (of 20 that are kept, the latest ones) is undone (SKILLS, POINTS, RAISED, how many were thrown, R are as "
            + "ahead of it; where THE PLAN is stays): how many are left that can be.");
        for (int games = 18; games <= 23; games++) {
            fresh("w1;0;0");
            x.law(0, 3);
            plan("0!-1");
            for (int k = 0; k < games; k++) {
                x.rounds(1);
            }
            int kept = Math.min(games, 20);
            due("kept of " + games, x.count(4), kept);
            for (int k = 1; k <= kept; k++) {
                due("undo", x.undo(), kept - k);
                due("threw", x.of(0, 4), games - k);
                due("POINTS", x.of(1, 1), 3 * (games - k));
            }
            due("no more", x.undo(), -1);
            due("threw", x.of(0, 4), games - kept);
        }
        fresh("w1;0;0");
        plan("0!-1;1!-0");
        x.rounds(199);
        due("kept", x.count(4), 20);
        due("undo", x.undo(), 19);
        due("where THE PLAN is stays", x.count(3), 1);
        x.rounds(1);
        due("kept", x.count(4), 20);
        fresh("71;05");
        x.law(4, 3);
        x.law(0, 2);
        x.seed(-5);
        x.play(0, 1, 0);
        x.play(0, 1, 1);
        due("RAISED", x.of(0, 2), 2);
        due("RAISED", x.of(1, 2), 2);
        due("undo", x.undo(), 1);
        skills(7, 2, 1, 5);
        due("RAISED", x.of(0, 2), 1);
        due("RAISED", x.of(1, 2), 1);
        due("threw", x.of(0, 4), 0);
        due("a DRAW was", x.seed(44) == -5, false);
        due("undo", x.undo(), 0);
        skills(7, 1, 0, 5);
        points(0, 0);
        due("RAISED", x.of(0, 2) + x.of(1, 2), 0);
        due("R", x.seed(1), -5);

        says(17, "Refused: none.");
        due("none", x.undo(), -1);
        skills(7, 1, 0, 5);
        x.play(0, 1, 3);
        due("one", x.undo(), 0);
        due("none", x.undo(), -1);
    }

    private static void twoPlayed() {
        fresh("55;11");
        x.keep(0);
        x.play(0, 1, 0);
        x.play(0, 1, 0);
    }

    private static void forgotten() {
        says(17, "(league(), sheet(), swap() and again() forget them, if they are not refused; an empty league() does not.)");
        twoPlayed();
        league("33");
        due("league()", x.undo(), -1);
        twoPlayed();
        league("w2");
        due("league()", x.undo(), -1);
        twoPlayed();
        league("");
        due("an empty league()", x.undo(), 1);
        league("8");
        due("a wrong league()", x.undo(), 0);
        twoPlayed();
        x.sheet(0, 0, 0, 0, 0);
        due("sheet()", x.undo(), -1);
        twoPlayed();
        x.sheet(0, 3, 0, 0, 0);
        due("sheet(), a missing one", x.undo(), -1);
        twoPlayed();
        x.sheet(0, 0, 9, 0, 0);
        due("a refused sheet()", x.undo(), 1);
        x.sheet(0, 0, -1, 0, 0);
        due("sheet() that changes nothing", x.undo(), 0);
        twoPlayed();
        x.swap(0, 1);
        due("swap()", x.undo(), -1);
        twoPlayed();
        x.swap(0, 0);
        due("a refused swap()", x.undo(), 1);
        x.swap(0, 2);
        due("a refused swap()", x.undo(), 0);
        twoPlayed();
        x.again(0);
        due("again()", x.undo(), -1);
        twoPlayed();
        x.again(1);
        due("a refused again()", x.undo(), 1);
        x.again(2);
        due("a refused again()", x.undo(), 0);
        twoPlayed();
        plan("0-1");
        rule("a");
        x.circle();
        x.ill(0, true);
        x.law(1, 2);
        x.seed(3);
        x.keep(1);
        x.seen(0, 1, 0);
        x.rounds(0);
        x.judge(1, 1);
        x.game(0, 1, 0);
        x.rest();
        x.all();
        x.pays(0, 3);
        due("others", x.undo(), 1);
        skills(5, 5, 2, 1);
    }

    private static void judged(int answer, long more, int n, int told) {
        due("judge(" + n + ", " + told + ")", x.judge(n, told), answer);
        row(more);
    }

    private static void judged() {
        says(18, "-2: all can be (SIDES there, the lesser first, what 0 .. 2); else the number of the first that can't (0 ..)");
        fresh("w1;5;1;0");
        int[] can = {1, 2, 12, 101, 102, 112, 201, 202, 212};
        int[] more = {1, 1, 1, 0, 0, 0, 1, 1, 1};
        for (int k = 0; k < can.length; k++) {
            judged(-2, more[k], 1, can[k]);
        }
        int[] cannot = {0, 10, 20, 21, 11, 22, 3, 13, 23, 30, 100, 110, 111, 103, 200, 210, 211, 222, 213, 299, 300, 301, 312, 401, 901, 999,
            1001, 1023, 90, 99, 9};
        for (int code : cannot) {
            judged(0, 0, 1, code);
            judged(1, 1, 2, 1 | code << 10);
            judged(2, 2, 3, 1 | 12 << 10 | code << 20);
        }
        judged(0, 0, 3, 10 | 11 << 10 | 1 << 20);
        judged(1, 1, 3, 1 | 11 << 10 | 1 << 20);
        fresh("w1;0;0;0;0;0;0;1;7");
        judged(-2, 1, 1, 67);
        judged(-2, 1, 1, 167);
        judged(-2, 0, 1, 267);
        judged(0, 0, 1, 76);
        judged(0, 0, 1, 77);
        judged(0, 0, 1, 78);
        judged(0, 0, 1, 88);
        judged(0, 0, 1, 367);
        fresh("w1;0");
        judged(0, 0, 1, 1);
        fresh("");
        judged(0, 0, 1, 1);

        says(18, "n (0 .. 3), 10 bits each (as GAMES are told, without LUCK), from the lowest on");
        fresh("w1;5;1;0");
        x.law(4, 50);
        judged(-2, 0, 0, 1023);
        judged(-2, 1, 1, 1 | 1023 << 10 | 1023 << 20 | 3 << 30);
        judged(-2, 2, 2, 1 | 12 << 10 | 1023 << 20 | 3 << 30);
        judged(-2, 3, 3, 1 | 12 << 10 | 12 << 20 | 3 << 30);
        judged(2, 2, 3, 1 | 12 << 10 | 512 << 20);
        due("no DRAW", x.seed(1), 1);
        row(2);

        says(18, "Nothing changes. NONE: another n.");
        int[] others = {-1, 4, Integer.MIN_VALUE, Integer.MAX_VALUE};
        for (int n : others) {
            due("judge(" + n + ", 1)", x.judge(n, 1), -1);
            row(2);
        }
        skills(5, 1, 0);
        points(0, 0, 0);
        due("undone", x.count(4), 0);
        due("threw", x.of(0, 4) + x.of(1, 4) + x.of(2, 4), 0);
    }

    private static void judgedOn() {
        says(18, "the ROW: by how much the sum of all SKILLS is more till then (POINTS and RAISED count on).");
        fresh("w1;5;1;0");
        rule("s+p*9");
        x.law(0, 1);
        // by its POINTS of the thrown GAME 1 wins the next one, and is taught again
        judged(-2, 2, 2, 101 | 1 << 10);
        rule("s-r*9");
        x.law(0, 0);
        // 0 RAISED 1: it loses to 1, that has nothing to teach it
        judged(-2, 1, 2, 1 | 1 << 10);
        x.law(2, 0);
        judged(-2, 0, 1, 1);
        x.ill(0, true);
        judged(-2, -1, 1, 1);
        judged(1, -1, 2, 1);
    }

    private static void rounds() {
        says(19, "n ROUNDS (0 .. 200) of THE PLAN are played (by LUCK, if EDGE is above 0): how many GAMES; the ROW: how many were drawn, "
            + "the sum of all SKILLS then.");
        fresh("w1;5;1;0;0");
        plan("0-1;2-3,0!-1!;2!-3");
        due("none", x.rounds(0), 0);
        row(0, 6);
        due("next", x.count(3), 0);
        due("one", x.rounds(1), 1);
        row(0, 7);
        due("two", x.rounds(2), 3);
        row(2, 7);
        due("next", x.count(3), 0);
        due("199", x.rounds(199), 67 + 66 * 2 + 66);
        due("next", x.count(3), 1);
        due("200", x.rounds(200), 67 * 2 + 67 + 66);
        due("next", x.count(3), 0);
        x.law(4, 1);
        x.seed(1);
        due("one by LUCK", x.rounds(1), 1);
        due("a DRAW", x.seed(1), 1103527590);
        due("thrown", x.rounds(0), 0);
        due("two GAMES, of which both throw one", x.rounds(1), 2);
        due("one DRAW", x.seed(1), 1103527590);
        due("one that is thrown", x.rounds(1), 1);
        due("no DRAW", x.seed(1), 1);
        fresh("w1;0;0;0;0;0;0;0;0");
        plan("0-1,2-3,4-5,6-7");
        due("200 of four GAMES", x.rounds(200), 800);
        row(800, 0);

        says(19, "NONE: another n, no PLAN.");
        int[] others = {-1, 201, Integer.MIN_VALUE, Integer.MAX_VALUE};
        for (int n : others) {
            due("rounds(" + n + ")", x.rounds(n), -1);
            row(800, 0);
        }
        points(200, 200, 200, 200, 200, 200, 200, 200);
        plan("");
        due("no PLAN", x.rounds(0), -1);
        due("no PLAN", x.rounds(200), -1);
        row(800, 0);
    }

    private static void beats() {
        says(20, "SIDES (bits) that a SIDE would beat now (no LUCK, nobody throws it); the ROW: those with which it would draw.");
        fresh("w1;3;3;4;2;5;1;7;0");
        int[] beaten = {8 + 32 + 128, 8 + 32 + 128, 1 + 2 + 8 + 32 + 128, 32 + 128, 255 - 16 - 64, 128, 255 - 64, 0};
        int[] drawn = {2, 1, 0, 0, 0, 0, 0, 0};
        for (int side = 0; side < 8; side++) {
            due("beats(" + side + ")", x.beats(side), beaten[side]);
            row(drawn[side]);
        }
        x.law(3, 2);
        x.law(4, 50);
        due("more by more than 2", x.beats(0), 128);
        row(2 + 4 + 8 + 16 + 32);
        x.law(3, 3);
        due("more by more than 3", x.beats(0), 0);
        row(2 + 4 + 8 + 16 + 32 + 128);
        x.law(3, 6);
        due("more by more than 6", x.beats(6), 128);
        row(255 - 64 - 128);
        x.law(3, 7);
        due("more by more than 7", x.beats(6), 0);
        row(255 - 64);
        due("no DRAW", x.seed(1), 1);

        says(20, "NONE: none such.");
        int[] others = {-1, 8, Integer.MIN_VALUE, Integer.MAX_VALUE};
        for (int side : others) {
            due("beats(" + side + ")", x.beats(side), -1);
            row(255 - 64);
        }
        fresh("");
        due("no SIDES", x.beats(0), -1);
        row();
        league("00");
        due("alone", x.beats(0), 0);
        row(0);
        due("none such", x.beats(1), -1);
    }

    private static void kings() {
        says(21, "SIDES (bits) each of which would beat every other one now, or one that would beat that one; the ROW: SIDES (bits) that "
            + "would beat nobody.");
        fresh("");
        due("no SIDES", x.kings(), 0);
        row(0);
        league("w1;3");
        due("alone", x.kings(), 1);
        row(1);
        league("3");
        due("two of equal POWER", x.kings(), 0);
        row(3);
        league("4");
        due("one above them", x.kings(), 4);
        row(3);
        x.law(3, 1);
        due("not above them by more than EVEN", x.kings(), 0);
        row(7);
        x.law(3, 0);
        league("4");
        due("two above them", x.kings(), 0);
        row(3);
        league("0;1;2;7");
        due("one of eight", x.kings(), 128);
        row(16);
        x.law(3, 2);
        x.law(4, 50);
        due("by more than 2", x.kings(), 128);
        row(16 + 32 + 64);
        x.law(3, 3);
        due("not above two of them by more than 3", x.kings(), 0);
        row(1 + 2 + 16 + 32 + 64);
        due("no DRAW", x.seed(1), 1);
    }

    private static void masters() {
        says(22, "The SIDE with the most SKILL in an ART; of equal ones the first: it; the ROW: that SKILL, SIDES (bits) that have as much, "
            + "the least SKILL of any.");
        fresh("w3;170;270;077;007");
        due("the first ART", x.master(0), 1);
        row(2, 2, 0);
        due("of equal ones the first", x.master(1), 0);
        row(7, 1 + 2 + 4, 0);
        due("the last ART", x.master(2), 2);
        row(7, 4 + 8, 0);
        fresh("w1;3;3;3;3;3;3;3;3");
        due("all", x.master(0), 0);
        row(3, 255, 3);
        league("w1;0");
        due("alone", x.master(0), 0);
        row(0, 1, 0);
        league("w1;1;2;1;2;2;1;1;7");
        due("the last", x.master(0), 7);
        row(7, 128, 1);

        says(22, "-2: no SIDES; NONE: no such ART.");
        int[] others = {-1, 1, Integer.MIN_VALUE, Integer.MAX_VALUE};
        for (int art : others) {
            due("master(" + art + ")", x.master(art), -1);
            row(7, 128, 1);
        }
        league("w2");
        due("no SIDES", x.master(0), -2);
        due("no SIDES", x.master(1), -2);
        due("no such ART, no SIDES", x.master(2), -1);
        due("no such ART, no SIDES", x.master(-1), -1);
        row(7, 128, 1);
    }

    private static void tables() {
        says(23, "THE TABLE: SIDES by POINTS, of equal ones by POWER, then by numbers: the ROW: they. How many.");
        fresh("");
        x.kings();
        due("no SIDES", x.table(), 0);
        row();
        league("w1;5");
        due("one", x.table(), 1);
        row(0);
        league("w1;5;5;5;5;5;5;5;5");
        due("by numbers", x.table(), 8);
        row(0, 1, 2, 3, 4, 5, 6, 7);
        league("w1;0;5;1;5;7;0;1;6");
        due("by POWER", x.table(), 8);
        row(4, 7, 1, 3, 2, 6, 0, 5);
        x.law(0, 3);
        x.play(0, 5, 3);
        due("by POINTS", x.table(), 8);
        row(0, 5, 4, 7, 1, 3, 2, 6);
        x.play(2, 7, 3);
        due("of as many POINTS by POWER", x.table(), 8);
        row(7, 2, 0, 5, 4, 1, 3, 6);
        x.play(5, 6, 2);
        due("by POINTS", x.table(), 8);
        row(5, 7, 2, 0, 4, 1, 3, 6);
        rule("0-a");
        due("by POWER below 0", x.table(), 8);
        row(5, 0, 2, 7, 6, 1, 3, 4);
    }

    private static void spreads() {
        says(24, "By how much POWERS of the strongest and the weakest SIDE differ; the ROW: both SIDES (of equal ones the first).");
        fresh("w1;3");
        due("one", x.spread(), 0);
        row(0, 0);
        league("3;3");
        due("equal ones", x.spread(), 0);
        row(0, 0);
        league("4");
        due("the last is the strongest", x.spread(), 1);
        row(3, 0);
        league("2;4;2;0");
        due("the last is the weakest", x.spread(), 4);
        row(3, 7);
        rule("0-a");
        due("below 0", x.spread(), 4);
        row(7, 3);
        rule("a*999*9-999*20");
        due("-9999 and 9999", x.spread(), 19998);
        row(3, 7);
        rule("0-1");
        due("all of them -1", x.spread(), 0);
        row(0, 0);

        fresh("w1;3;5");
        rule("0-a");
        due("all of them below 0", x.spread(), 2);
        row(0, 1);
        rule("a");
        due("all of them above 0", x.spread(), 2);
        row(1, 0);

        says(24, "0 without SIDES (the ROW is empty).");
        league("w1");
        row(1, 0);
        due("no SIDES", x.spread(), 0);
        row();
        league("3");
        due("one SIDE", x.spread(), 0);
        row(0, 0);
    }
}
