/** Promises 1 to 13, sentence by sentence: at each boundary, just inside it and just outside it. */
public final class LeagueEdgesTest extends Checks {
    public static void main(String[] args) {
        made();
        signs();
        ends();
        leagues();
        rules();
        plans();
        skillsAndMore();
        laws();
        sheets();
        sheetsEnds();
        ill();
        swaps();
        circles();
        finish();
    }

    private static void made() {
        says(ABOVE_ALL, "An object is used for at most 512 calls after it has been made");
        fresh("w1;7;0");
        // five calls told that, one asks for POINTS
        for (int k = 5; k < 511; k++) {
            x.play(0, 1, 0);
        }
        due("the 512th call", x.of(0, 1), 7 * 3 + 506 - 7);

        says(1, "Two ARTS, no SIDES.");
        fresh("");
        int[] first = {0, 2, 0, 0, 0, 0, 0, 0, 0};
        for (int what = 0; what < first.length; what++) {
            due("count(" + what + ")", x.count(what), first[what]);
        }
        row();
        due("skill", x.skill(0, 0), -1);
        due("of", throwsOf(0, 0), true);
        due("undo", x.undo(), -1);
        due("again", x.again(0), false);
        due("seed", x.seed(1), 1);
        due("one ART", league("1"), -2);
        due("three ARTS", league("123"), -3);
        due("two ARTS", league("12"), 1);
    }

    // ---- THE TEXT

    private static void signs() {
        says(2, "Four signs come behind THE TEXT, of v the highest byte first: how many it has.");
        fresh("");
        due("sign", x.sign('1' << 24 | '2' << 16 | ';' << 8 | '3'), 4);
        due("sign", x.sign('4' << 24), 8);
        x.end(5);
        due("league", x.league(), 2);
        skills(1, 2, 3, 4);
        due("a sign beyond 127", x.sign('s' << 24 | 255 << 16 | 128 << 8), 4);
        due("is another one", x.rule(), -2);
        due("the highest byte beyond 127", x.sign(Integer.MIN_VALUE), 4);
        due("is another one", x.rule(), -1);
        due("all bits", x.sign(-1), 4);
        due("is another one", x.rule(), -1);

        says(2, "Refused: there would be more than 80.");
        fresh("");
        for (int k = 1; k <= 19; k++) {
            due("sign", x.sign('-' << 24 | '-' << 16 | '-' << 8 | '-'), 4 * k);
        }
        due("76", x.count(7), 76);
        due("80", x.sign(0), 80);
        due("84", x.sign(0), -1);
        due("80", x.count(7), 80);
        x.end(79);
        due("83", x.sign(0), -1);
        due("79", x.count(7), 79);
        x.end(77);
        due("81", x.sign(0), -1);
        due("77", x.count(7), 77);
        x.end(76);
        due("80", x.sign('5' << 24), 80);
        x.end(4);
        due("8", x.sign('5' << 24), 8);
        x.end(5);
        due("what is behind the end is gone", x.rule(), 0);
        league("12");
        due("four - and 5", x.of(0, 0), 5);
    }

    private static void ends() {
        says(3, "THE TEXT has its first n signs alone: true; false if it has not so many, or n is below 0.");
        fresh("");
        due("none of none", x.end(0), true);
        due("one of none", x.end(1), false);
        due("below 0", x.end(-1), false);
        x.sign('1' << 24 | '2' << 16 | '3' << 8 | '4');
        due("one more", x.end(5), false);
        due("far more", x.end(Integer.MAX_VALUE), false);
        due("below 0", x.end(-1), false);
        due("far below 0", x.end(Integer.MIN_VALUE), false);
        due("all stay", x.count(7), 4);
        due("all", x.end(4), true);
        due("all", x.count(7), 4);
        due("three", x.end(3), true);
        due("three", x.count(7), 3);
        due("four of three", x.end(4), false);
        due("one", x.end(1), true);
        due("one", x.count(7), 1);
        due("none", x.end(0), true);
        due("none", x.count(7), 0);
        for (int k = 0; k < 20; k++) {
            x.sign(0);
        }
        due("81", x.end(81), false);
        due("80", x.end(80), true);
        due("79", x.end(79), true);
        due("80", x.end(80), false);
    }

    private static void leagues() {
        says(4, "THE TEXT tells of THE LEAGUE (an empty one: nothing): how many LINES.");
        fresh("12;34");
        x.keep(0);
        x.play(0, 1, 0);
        due("an empty one", league(""), 0);
        due("SIDES", x.count(0), 2);
        due("kept", x.again(0), true);
        due("one", league("00"), 1);
        due("two", league("00;00"), 2);
        due("w", league("w1"), 1);
        due("w, and w again", league("w1;w2"), 2);
        due("SIDES of which w leaves none", league("11;22;w1;3"), 4);
        due("SIDES", x.count(0), 1);
        due("38 LINES of two signs", league("w4;" + times("w1;", 23) + "w3"), 25);

        says(4, "-1 - p: the sign at p can't stand there (its end, if it ends too early; 76, if it has more and the first 76 could go "
            + "on or end; the first sign of a SIDE for which there is no room).");
        fresh("");
        due("at the first", league("x"), -1);
        due("at the last", league("12;3x"), -5);
        due("behind what could be all", league("12x"), -3);
        due("its end", league("1"), -2);
        due("its end", league("12;"), -4);
        due("its end", league("w"), -2);
        due("its end", league("12;3"), -5);
        due("76, could end", league(times("w1;", 24) + "w1;0;"), -77);
        due("76, could go on", league(times("w1;", 25) + "w2"), -77);
        due("its end at 76", league(times("w1;", 23) + "w2;12!;"), -77);
        due("its end at 75", league(times("w1;", 25)), -76);
        fresh("w1;0;0;0;0;0;0;0");
        due("no room for a second one", league("0;1"), -3);
        due("no room for a second one, wrong itself", league("0;8"), -3);
        due("no room for a second one, wrong behind it", league("0!;1x"), -4);
        due("its end where a ninth could stand", league("0;"), -3);
        due("room", league("0"), 1);
        due("no room", league("0"), -1);
        due("no room", league("0!"), -1);
        due("no SIDE", league("w1"), 1);
        due("room by w", league("w1;" + times("0;", 7) + "0"), 9);
        due("no room behind w", league("w1;" + times("0;", 8) + "0"), -20);

        says(4, "Nothing of it comes, if a LINE can't.");
        fresh("12;34!");
        x.ill(0, true);
        x.play(1, 0, 0);
        String[] texts = {"55;66;x", "55;66;7", "55!;8", "w3;123;45", "w2;11;22;9", "w1;w", "55;66;77;11;22;33;44"};
        for (String t : texts) {
            due(t, league(t) < 0, true);
            due("SIDES", x.count(0), 2);
            due("ARTS", x.count(1), 2);
            skills(1, 2, 3, 4);
            due("ILL", x.of(0, 3), 1);
            due("ILL", x.of(1, 3), 1);
            points(0, 3);
            due("undone", x.count(4), 1);
        }
    }

    private static void rules() {
        says(5, "THE TEXT is THE RULE (an empty one: none): 0.");
        fresh("25;31");
        due("a rule", rule("a*b"), 0);
        due("POWER", x.of(0, 0), 10);
        due("another one", rule("b"), 0);
        due("POWER", x.of(0, 0), 5);
        due("THE TEXT is read", x.count(7), 0);
        due("none", rule(""), 0);
        due("POWER", x.of(0, 0), 7);
        due("none twice", rule(""), 0);
        due("POWER", x.of(0, 0), 7);

        says(5, "-1 - p: as league() (40 signs).");
        due("at the first", rule("x"), -1);
        due("at the last", rule("a+x"), -3);
        due("behind what could be all", rule("ax"), -2);
        due("its end", rule("a+"), -3);
        due("its end", rule("(a"), -3);
        due("THE TEXT is read", x.count(7), 0);
        due("40", rule(times("a+", 19) + "(b"), -41);
        due("40", rule(times("b+", 18) + "(b)"), 0);
        due("POWER", x.of(0, 0), 95);
        due("40", rule(times("a+", 18) + "(bb)"), -39);
        due("40, its end", rule(times("a+", 20)), -41);
        due("41, could end", rule(times("a+", 19) + "99+"), -41);
        due("41, could go on", rule(times("a+", 20) + "9"), -41);
        due("41, wrong at 39", rule(times("a+", 19) + "9x9"), -40);
        due("41, wrong at 40", rule(times("a+", 19) + "99x"), -41);
        due("79", rule(times("-", 79)), -41);
        due("POWER stays", x.of(0, 0), 95);
    }

    private static void plans() {
        says(6, "THE TEXT is THE PLAN (an empty one: none): how many ROUNDS.");
        fresh("11;22;33");
        due("one", plan("0-1"), 1);
        due("two", plan("0-1;2-1"), 2);
        due("next", x.rounds(1), 1);
        due("next", x.count(3), 1);
        due("told anew", plan("0-1;2-1"), 2);
        due("from the first on", x.count(3), 0);
        x.rounds(1);
        due("none", plan(""), 0);
        due("ROUNDS", x.count(2), 0);
        due("GAMES", x.count(8), 0);
        due("next", x.count(3), 0);
        due("no PLAN", x.rounds(0), -1);
        due("twelve", plan(times("0-1;", 11) + "0-2"), 12);

        says(6, "-1 - p: as league() (one that is not there, or was ahead in that ROUND: at its digit; the first sign of a thirteenth "
            + "ROUND).");
        String[] texts = {"3-0", "0-3", "0-1,3-2", "0!-3", "0-0", "0-1,0-2", "0-1,1-2", "0-1,2-1", "0!-0", "0-1;2-2", "0-1;1-2;2-3"};
        int[] at = {0, 2, 4, 3, 2, 4, 4, 6, 3, 6, 10};
        for (int k = 0; k < texts.length; k++) {
            due(texts[k], plan(texts[k]), -1 - at[k]);
            due("THE TEXT is read", x.count(7), 0);
            due("THE PLAN stays", x.count(2), 12);
        }
        due("a thirteenth", plan(times("0-1;", 12) + "2-1"), -49);
        due("a thirteenth, wrong itself", plan(times("0-1;", 12) + "x"), -49);
        due("a thirteenth to come", plan(times("0-1;", 12)), -49);
        due("its end", plan("0"), -2);
        due("its end", plan("0-"), -3);
        due("its end", plan("0!"), -3);
        due("its end", plan("0-1,"), -5);
        due("its end", plan("0-1;"), -5);
        due("76", plan(times("0!-1!;", 11) + "0!-1!,2!-"), -76);
        due("76", plan(times("0!-1!;", 10) + "0!-1!;0!-1,2-"), -74);
        due("THE PLAN stays", x.count(2), 12);
        fresh("11;22;33;44");
        due("76 that end", plan(times("0!-1!;", 11) + "0!-1!,2!-3"), 12);
        due("77", plan(times("0!-1!;", 11) + "0!-1!,2!-3!"), -77);
        due("76", plan(times("0!-1!;", 11) + "0!-1!,2-3!"), 12);
        due("75", plan(times("0!-1!;", 11) + "0!-1!,2-3"), 12);
    }

    // ---- SKILLS, THE LAW

    private static void skillsAndMore() {
        says(7, "SKILL of a SIDE in an ART. NONE: none such.");
        fresh("");
        due("no SIDES", x.skill(0, 0), -1);
        fresh("w3;123;456");
        int[] sides = {-1, 0, 1, 2, Integer.MIN_VALUE, Integer.MAX_VALUE};
        int[] arts = {-1, 0, 2, 3, Integer.MIN_VALUE, Integer.MAX_VALUE};
        for (int s = 0; s < sides.length; s++) {
            for (int a = 0; a < arts.length; a++) {
                boolean there = (s == 1 || s == 2) && (a == 1 || a == 2);
                due("skill(" + sides[s] + ", " + arts[a] + ")", x.skill(sides[s], arts[a]), there ? 3 * sides[s] + arts[a] + 1 : -1);
            }
        }

        says(8, "Of a SIDE, what 0: POWER, 1: POINTS, 2: RAISED, 3: 1 if ILL, 4: GAMES it threw.");
        fresh("71;00!");
        int[] first = {8, 0, 0, 0, 0};
        int[] second = {0, 0, 0, 1, 0};
        for (int what = 0; what < 5; what++) {
            due("of(0, " + what + ")", x.of(0, what), first[what]);
            due("of(1, " + what + ")", x.of(1, what), second[what]);
        }
        x.play(0, 1, 0);
        x.play(0, 1, 1);
        x.play(0, 1, 3);
        first = new int[] {8, 4, 1, 0, 2};
        second = new int[] {1, 4, 0, 1, 1};
        for (int what = 0; what < 5; what++) {
            due("of(0, " + what + ")", x.of(0, what), first[what]);
            due("of(1, " + what + ")", x.of(1, what), second[what]);
        }

        says(8, "NoSuchElementException: none such, another what.");
        int[] wrongSides = {-1, 2, 8, Integer.MIN_VALUE, Integer.MAX_VALUE};
        for (int side : wrongSides) {
            due("of(" + side + ", 0)", throwsOf(side, 0), true);
            due("of(" + side + ", 9)", throwsOf(side, 9), true);
        }
        int[] wrongWhats = {-1, 5, Integer.MIN_VALUE, Integer.MAX_VALUE};
        for (int what : wrongWhats) {
            due("of(1, " + what + ")", throwsOf(1, what), true);
        }
        due("of(1, 4)", throwsOf(1, 4), false);
        due("of(0, 0)", throwsOf(0, 0), false);
        fresh("");
        due("no SIDES", throwsOf(0, 0), true);
    }

    private static void laws() {
        says(9, "THE LAW: what becomes v: what it was. Refused: others.");
        fresh("w1;5;1;3");
        due("what -1", x.law(-1, 1), -1);
        due("what 5", x.law(5, 1), -1);
        due("far off", x.law(Integer.MIN_VALUE, 1), -1);
        due("far off", x.law(Integer.MAX_VALUE, 1), -1);
        due("what 0", x.law(0, 1), 0);
        due("what 4", x.law(4, 1), 0);
        due("what 4", x.law(4, 0), 1);
        x.play(0, 1, 1);
        due("by THE LAW that holds the loser taught", x.skill(1, 0), 2);
        due("refused", x.law(0, 4), -1);
        due("it stays", x.law(0, 3), 1);
        due("refused", x.law(1, 0), -1);
        due("it stays", x.law(1, 2), 1);
        due("refused", x.law(2, 3), -1);
        due("it stays", x.law(2, 0), 1);
        due("refused", x.law(3, 100), -1);
        due("it stays", x.law(3, 99), 0);
        due("refused", x.law(4, 51), -1);
        due("it stays", x.law(4, 50), 0);
        due("undo stays", x.count(4), 1);
    }

    private static void sheet(int kind, int f, int want) {
        due("kind " + kind + " of " + f, x.sheet(0, kind, 1, f, 5), want);
        due("skill", x.skill(0, 0), want);
    }

    private static void sheets() {
        says(10, "bytes (kind 0), shorts (1), ints (2) of n entries f, f + step, .. (of bytes, shorts the lowest bits, with their sign; put "
            + "to 0 .. 7)");
        fresh("00;00;00");
        int[] f = {-1, 0, 1, 6, 7, 8, 127, 128, 255, 256, 257, 263, 264, -121, -128, -129, -249, -256, 32767, 32768, 65535, 65536, 65543,
            65544, -32768, -32769, -65535, Integer.MAX_VALUE, Integer.MIN_VALUE};
        int[] bytes = {0, 0, 1, 6, 7, 7, 7, 0, 0, 0, 1, 7, 7, 0, 0, 7, 7, 0, 0, 0, 0, 0, 7, 7, 0, 0, 1, 0, 0};
        int[] shorts = {0, 0, 1, 6, 7, 7, 7, 7, 7, 7, 7, 7, 7, 0, 0, 0, 0, 0, 7, 0, 0, 0, 7, 7, 0, 7, 1, 0, 0};
        int[] ints = {0, 0, 1, 6, 7, 7, 7, 7, 7, 7, 7, 7, 7, 0, 0, 0, 0, 0, 7, 7, 7, 7, 7, 7, 0, 0, 0, 7, 0};
        for (int k = 0; k < f.length; k++) {
            sheet(0, f[k], bytes[k]);
            sheet(1, f[k], shorts[k]);
            sheet(2, f[k], ints[k]);
        }
        fresh("00;00;00");
        due("beyond the greatest byte", x.sheet(0, 0, 3, 126, 1), 7 + 7 + 0);
        due("up to 0", x.sheet(0, 0, 3, 254, 1), 0 + 0 + 0);
        due("beyond 0", x.sheet(0, 0, 3, 255, 1), 0 + 0 + 1);
        due("beyond the greatest short", x.sheet(0, 1, 3, 32766, 1), 7 + 7 + 0);
        due("beyond 0", x.sheet(0, 1, 3, 65535, 1), 0 + 0 + 1);
        due("beyond the greatest int", x.sheet(0, 2, 3, Integer.MAX_VALUE - 1, 1), 7 + 7 + 0);
        due("below the least int", x.sheet(0, 2, 3, Integer.MIN_VALUE + 1, -1), 0 + 0 + 7);
        due("a great step", x.sheet(0, 2, 3, 3, Integer.MIN_VALUE), 3 + 0 + 3);
        due("a great step", x.sheet(0, 0, 3, 3, Integer.MIN_VALUE), 3 + 3 + 3);
        due("no step", x.sheet(0, 2, 3, 4, 0), 12);
        due("down", x.sheet(0, 2, 3, 1, -1), 1);

        says(10, "SKILLS of SIDES 0, 1, .. in an ART, as a sheet tells them");
        fresh("w3;111;222;333");
        due("the first ART", x.sheet(0, 2, 3, 4, 1), 15);
        skills(4, 1, 1, 5, 2, 2, 6, 3, 3);
        due("the last ART", x.sheet(2, 2, 3, 7, -3), 12);
        skills(4, 1, 7, 5, 2, 4, 6, 3, 1);
        due("behind the last", x.sheet(3, 2, 3, 7, -3), -1);
        due("ahead of the first", x.sheet(-1, 2, 3, 7, -3), -1);
        skills(4, 1, 7, 5, 2, 4, 6, 3, 1);

        says(10, "or a missing one (3): those behind it have 0: the sum of all that there are (entries beyond them are left aside).");
        due("none", x.sheet(1, 2, 0, 5, 1), 0);
        skills(4, 0, 7, 5, 0, 4, 6, 0, 1);
        due("one", x.sheet(1, 2, 1, 5, 1), 5);
        skills(4, 5, 7, 5, 0, 4, 6, 0, 1);
        due("two", x.sheet(1, 2, 2, 5, 1), 11);
        skills(4, 5, 7, 5, 6, 4, 6, 0, 1);
        due("three", x.sheet(1, 2, 3, 5, 1), 18);
        skills(4, 5, 7, 5, 6, 4, 6, 7, 1);
        due("four", x.sheet(1, 2, 4, 3, 1), 12);
        skills(4, 3, 7, 5, 4, 4, 6, 5, 1);
        due("eight", x.sheet(1, 2, 8, 1, 1), 6);
        skills(4, 1, 7, 5, 2, 4, 6, 3, 1);
        fresh("w1;0;0;0;0;0;0;0;0");
        due("eight of eight", x.sheet(0, 2, 8, 0, 1), 28);
        skills(0, 1, 2, 3, 4, 5, 6, 7);
        due("seven of eight", x.sheet(0, 2, 7, 1, 1), 28);
        skills(1, 2, 3, 4, 5, 6, 7, 0);
        fresh("");
        due("no SIDES", x.sheet(0, 2, 8, 5, 0), 0);
    }

    private static void sheetsEnds() {
        says(10, "-2: n below 0 (of kinds 0 .. 2; nothing changes); -3: missing (all 0).");
        for (int kind = 0; kind <= 3; kind++) {
            int[] below = {-1, -2, Integer.MIN_VALUE};
            for (int n : below) {
                fresh("12;34");
                x.play(0, 1, 0);
                due("n below 0", x.sheet(1, kind, n, 5, 1), kind == 3 ? -3 : -2);
                skills(kind == 3 ? new int[] {2, 0, 3, 0} : new int[] {2, 2, 3, 4});
                due("undone", x.count(4), kind == 3 ? 0 : 1);
            }
            fresh("12;34");
            due("n 0", x.sheet(0, kind, 0, 5, 1), kind == 3 ? -3 : 0);
            skills(0, 2, 0, 4);
        }
        fresh("12;34");
        due("missing of 8", x.sheet(0, 3, 8, 5, 1), -3);
        skills(0, 2, 0, 4);

        says(10, "NONE: no such ART, another kind, n above 8 (these first).");
        int[][] wrong = {{-1, 0, 1}, {2, 0, 1}, {0, -1, 1}, {0, 4, 1}, {0, 0, 9}, {0, 1, 9}, {0, 2, 9}, {0, 3, 9},
            {2, 0, -1}, {-1, 2, -1}, {0, 4, -1}, {0, -1, -1}, {2, 3, 1}, {-1, 3, -1}, {Integer.MAX_VALUE, 0, 1}, {0, Integer.MAX_VALUE, 1},
            {0, Integer.MIN_VALUE, 1}, {0, 0, Integer.MAX_VALUE}, {Integer.MIN_VALUE, 0, 1}};
        fresh("12;34");
        x.play(0, 1, 0);
        for (int[] w : wrong) {
            due("sheet(" + w[0] + ", " + w[1] + ", " + w[2] + ")", x.sheet(w[0], w[1], w[2], 5, 1), -1);
            skills(2, 2, 3, 4);
            due("undone", x.count(4), 1);
        }
    }

    private static void ill() {
        says(11, "A SIDE is ILL, or not: true. Refused: none such.");
        fresh("");
        due("no SIDES", x.ill(0, true), false);
        fresh("00;11!;22");
        int[] wrong = {-1, 3, 8, 32, Integer.MIN_VALUE, Integer.MAX_VALUE};
        for (int side : wrong) {
            due("ill", x.ill(side, true), false);
            due("ill", x.ill(side, false), false);
        }
        int[] at = {0, 1, 0};
        for (int side = 0; side < 3; side++) {
            due("as it was", x.of(side, 3), at[side]);
        }
        due("the first", x.ill(0, true), true);
        due("the last", x.ill(2, true), true);
        due("once more", x.ill(2, true), true);
        due("no more", x.ill(1, false), true);
        due("no more twice", x.ill(1, false), true);
        at = new int[] {1, 0, 1};
        for (int side = 0; side < 3; side++) {
            due("as told", x.of(side, 3), at[side]);
        }
    }

    private static void swaps() {
        says(12, "Two unlike SIDES exchange their SKILLS: true. Refused: others.");
        fresh("w3;123!;456;701");
        x.play(2, 1, 3);
        due("with itself", x.swap(0, 0), false);
        due("with itself", x.swap(2, 2), false);
        due("behind the last", x.swap(0, 3), false);
        due("behind the last", x.swap(3, 0), false);
        due("ahead of the first", x.swap(-1, 0), false);
        due("ahead of the first", x.swap(0, -1), false);
        due("neither", x.swap(3, 4), false);
        due("neither", x.swap(-1, -1), false);
        skills(1, 2, 3, 4, 5, 6, 7, 0, 1);
        due("undone", x.count(4), 1);
        due("the first and the last", x.swap(0, 2), true);
        skills(7, 0, 1, 4, 5, 6, 1, 2, 3);
        due("undone", x.count(4), 0);
        due("back", x.swap(2, 0), true);
        skills(1, 2, 3, 4, 5, 6, 7, 0, 1);
        points(0, 1, 1);
        due("ILL stays", x.of(0, 3), 1);
        due("threw stays", x.of(2, 4), 1);
        fresh("");
        due("no SIDES", x.swap(0, 1), false);
        fresh("11");
        due("one SIDE", x.swap(0, 1), false);
    }

    /** THE PLAN is these GAMES: R tells after how many, POINTS tell who was first in each. */
    private static void planned(String sides, int rounds, int... games) {
        fresh(sides);
        rule("1");
        x.law(0, 3);
        x.law(4, 1);
        due("circle", x.circle(), rounds);
        due("ROUNDS", x.count(2), rounds);
        due("GAMES", x.count(8), games.length);
        int r = 1;
        int perRound = games.length / rounds;
        int[] points = new int[8];
        for (int k = 0; k < games.length; k++) {
            r = r * 1103515245 + 12345;
            points[(r >>> 16) % 100 < 50 ? games[k] / 10 : games[k] % 10] += 3;
            if ((k + 1) % perRound == 0) {
                due("GAMES of a ROUND", x.rounds(1), perRound);
                for (int side = 0; side < x.count(0); side++) {
                    due("POINTS of " + side + " behind " + (k + 1) + " GAMES", x.of(side, 1), points[side]);
                }
            }
        }
        due("all were", x.count(3), 0);
    }

    private static void circles() {
        says(13, "THE PLAN is each with each: with as many places as SIDES (one more, if that is odd: who stands against it rests), SIDE k at "
            + "place k; a ROUND: place 0 against the last, 1 against the last but one, .. (first the place with the lesser number); then all "
            + "but place 0 go one place on, the last to place 1; till all were: how many ROUNDS.");
        planned("w1;0;0", 1, 1);
        planned("w1;0;0;0", 3, 12, 2, 1);
        planned("w1;0;0;0;0", 3, 3, 12, 2, 31, 1, 23);
        planned("w1;0;0;0;0;0", 5, 14, 23, 4, 12, 3, 42, 2, 31, 1, 34);
        planned("w1;0;0;0;0;0;0", 5, 5, 14, 23, 4, 53, 12, 3, 42, 51, 2, 31, 45, 1, 25, 34);
        planned("w1;0;0;0;0;0;0;0", 7, 16, 25, 34, 6, 14, 23, 5, 64, 12, 4, 53, 62, 3, 42, 51, 2, 31, 56, 1, 36, 45);
        planned("w1;0;0;0;0;0;0;0;0", 7, 7, 16, 25, 34, 6, 75, 14, 23, 5, 64, 73, 12, 4, 53, 62, 71, 3, 42, 51, 67, 2, 31, 47, 56, 1, 27,
            36, 45);

        says(13, "Refused: fewer than two SIDES.");
        fresh("");
        due("none", x.circle(), -1);
        fresh("00");
        due("one", x.circle(), -1);
        due("no PLAN", x.count(2), 0);
        league("00");
        due("two", x.circle(), 1);
        due("one ROUND", x.count(2), 1);
        league("00");
        plan("0-1;1-2;2-0;0-1");
        x.rounds(2);
        due("three", x.circle(), 3);
        due("from the first ROUND on", x.count(3), 0);
    }
}
