/** The terms ahead of the promises, sentence by sentence: at each boundary, just inside it and just outside it. */
public final class TermsEdgesTest extends Checks {
    public static void main(String[] args) {
        artsAndSides();
        theLeague();
        theRule();
        things();
        powers();
        theLaw();
        games();
        sorts();
        teaching();
        luck();
        draws();
        thePlan();
        planGoesOn();
        rowsAndFractions();
        seasonsAndOrders();
        searches();
        finish();
    }

    // ---- ARTS, SIDES, THE LEAGUE

    private static void artsAndSides() {
        says(TERMS, "ARTS 0 .. (1 to 4 of them, written a .. d; at first 2).");
        fresh("");
        due("at first", x.count(1), 2);
        due("none", league("w0"), -2);
        due("none", x.count(1), 2);
        due("one", league("w1"), 1);
        due("one", x.count(1), 1);
        due("four", league("w4;1234"), 2);
        due("four", x.count(1), 4);
        due("five", league("w5"), -2);
        due("four", x.count(1), 4);
        due("the last", x.skill(0, 3), 4);
        due("behind the last", x.skill(0, 4), -1);
        due("a .. d", rule("a+b*10+c*100+d*999"), 0);
        due("a .. d", x.of(0, 0), 1 + 20 + 300 + 3996);
        due("e", rule("e"), -1);

        says(TERMS, "SIDES 0 .. (at most 8)");
        fresh("w1;0;1;2;3;4;5;6");
        due("seven", x.count(0), 7);
        due("the last", x.skill(6, 0), 6);
        due("none yet", x.skill(7, 0), -1);
        due("two more", league("7;7"), -3);
        due("seven", x.count(0), 7);
        due("an eighth", league("7"), 1);
        due("eight", x.count(0), 8);
        due("the last", x.skill(7, 0), 7);
        due("none", x.skill(8, 0), -1);
        due("a ninth", league("7"), -1);
        due("eight", x.count(0), 8);
        due("eight in a text", league("w1;0;1;2;3;4;5;6;7"), 9);
        due("nine in a text", league("w1;0;1;2;3;4;5;6;7;0"), -20);
        due("eight, and w", league("w1;0;1;2;3;4;5;6;7;w1"), 10);

        says(TERMS, "a SKILL 0 .. 7 in each ART");
        fresh("07");
        skills(0, 7);
        String[] wrong = {"/0", "80", "90", "0/", "08", "0:", "-1"};
        int[] at = {0, 0, 0, 1, 1, 1, 0};
        for (int k = 0; k < wrong.length; k++) {
            due(wrong[k], league(wrong[k]), -1 - at[k]);
        }
        due("both", league("70"), 1);
        skills(0, 7, 7, 0);

        says(TERMS, "ILL (teaches badly) or not, POINTS, RAISED, how many GAMES it threw.");
        fresh("w1;0!;0");
        newSide(0, 1);
        newSide(1, 0);
        league("w1;7;0");
        x.play(0, 1, 1);
        x.play(1, 0, 1);
        x.play(0, 1, 3);
        due("raised", x.of(0, 2), 1);
        due("threw", x.of(0, 4), 2);
        league("5");
        newSide(2, 0);
        due("there stays", x.of(0, 2), 1);
        due("there stays", x.of(0, 1), 4);
        due("there stays", x.of(0, 4), 2);
        league("w1;7;0!;1");
        newSide(0, 0);
        newSide(1, 1);
        newSide(2, 0);
    }

    private static void newSide(int side, int ill) {
        due("POINTS", x.of(side, 1), 0);
        due("RAISED", x.of(side, 2), 0);
        due("ILL", x.of(side, 3), ill);
        due("threw", x.of(side, 4), 0);
    }

    private static void theLeague() {
        says(TERMS, "THE LEAGUE is a text of at most 76 signs");
        fresh("");
        due("75", league(times("w1;", 23) + "w2;12!"), 25);
        due("75 that should go on", league(times("w1;", 25)), -76);
        due("76", league(times("w1;", 24) + "w1;7"), 26);
        due("76 that should go on", league(times("w1;", 23) + "w2;77!;"), -77);
        due("77", league(times("w1;", 24) + "w1;7!"), -77);
        due("77", league(times("w1;", 24) + "w1;7;"), -77);
        due("77, the first 76 don't end", league(times("w1;", 25) + "w1"), -77);
        due("77, wrong at 75", league(times("w1;", 25) + "8;"), -76);
        due("77, wrong at 76", league(times("w1;", 24) + "w1;7x"), -77);
        due("80", league(times("w1;", 26) + "w1"), -77);
        skills(7);

        says(TERMS, "LINES with ; between, what they tell comes behind what there is");
        fresh("12");
        due("one LINE", league("34"), 1);
        due("two LINES", league("56;70"), 2);
        skills(1, 2, 3, 4, 5, 6, 7, 0);
        due("no LINE ahead of it", league(";12"), -1);
        due("no LINE between", league("12;;34"), -4);
        due("no LINE behind it", league("12;"), -4);
        due("another sign between", league("12,34"), -3);
        due("as it was", x.count(0), 4);
        illStays();

        says(TERMS, "w and a digit 1 .. 4: so many ARTS (all SIDES, THE PLAN, what was seen() are gone then)");
        String[] wrong = {"w", "w0", "w/", "w5", "w9", "w:", "ww", "w11", "w1!", "1w"};
        int[] at = {1, 1, 1, 1, 1, 1, 1, 2, 2, 1};
        for (int k = 0; k < wrong.length; k++) {
            tellAll();
            due(wrong[k], league(wrong[k]), -1 - at[k]);
            due("SIDES", x.count(0), 3);
            due("ROUNDS", x.count(2), 3);
            due("next ROUND", x.count(3), 1);
            due("seen", x.count(5), 2);
            due("undone", x.undo(), 0);
        }
        for (int arts = 1; arts <= 4; arts++) {
            tellAll();
            due("w", league("w" + arts), 1);
            int[] gone = {0, arts, 0, 0, 0, 0, 2, 0, 0};
            for (int what = 0; what < gone.length; what++) {
                due("count(" + what + ")", x.count(what), gone[what]);
            }
            due("R stays", x.seed(1), 99);
            due("THE LAW stays", x.law(1, 1), 2);
            league("7777".substring(0, arts));
            due("THE RULE stays", x.of(0, 0), 70);
            due("no PLAN", x.rounds(1), -1);
            newSide(0, 0);
        }
        tellAll();
        due("nothing is gone by what is wrong behind it", league("w2;8"), -4);
        due("SIDES", x.count(0), 3);
        league("w2;11;22");
        plan("0-1");
        x.seen(0, 1, 0);
        due("a LINE without w", league("33"), 1);
        due("THE PLAN stays", x.count(2), 1);
        due("what was seen stays", x.count(5), 1);
        // nothing of what was there is left in ARTS that are gone, and come again
        league("w4;7777;7777");
        league("w1;1;2");
        due("STATES", x.all(), 2);
        row(4, 3, 1);
        league("w4;1111;1111");
        due("STATES", x.all(), 1);
        row(8, 8, 0);
        league("w4");
        due("STATES", x.all(), 1);
        row(0, 0, 0);

        says(TERMS, "as many digits 0 .. 7 as there are ARTS, and perhaps ! (ILL).");
        for (int arts = 1; arts <= 4; arts++) {
            String digits = "5072".substring(0, arts);
            fresh("w" + arts);
            due("one less", league(digits.substring(1)), arts == 1 ? 0 : -arts);
            due("one less, ILL", league(digits.substring(1) + "!"), -arts);
            due("one less, more LINES", league(digits.substring(1) + ";" + digits), -arts);
            due("one more", league(digits + "0"), -1 - arts);
            due("as many", league(digits), 1);
            due("not ILL", x.of(0, 3), 0);
            due("as many, ILL", league(digits + "!"), 1);
            due("ILL", x.of(1, 3), 1);
            due("twice ILL", league(digits + "!!"), -2 - arts);
            due("digits behind", league(digits + "!0"), -2 - arts);
            due("ILL ahead", league("!" + digits), -1);
            due("SIDES", x.count(0), 2);
        }
    }

    private static void illStays() {
        fresh("12;34!");
        x.ill(0, true);
        x.ill(1, false);
        due("more", league("56!;70"), 2);
        int[] ill = {1, 0, 1, 0};
        for (int side = 0; side < 4; side++) {
            due("ILL", x.of(side, 3), ill[side]);
        }
    }

    private static void tellAll() {
        fresh("50;23;04!");
        x.circle();
        x.rounds(1);
        x.seen(0, 1, 0);
        x.seen(1, 2, 1);
        x.law(1, 2);
        x.seed(99);
        rule("a*10");
    }

    // ---- POWER and THE RULE

    private static void value(String t, int want) {
        due("rule() of " + t, rule(t), 0);
        due("POWER by " + t, x.of(1, 0), want);
    }

    private static void wrongAt(String t, int at) {
        int power = x.of(1, 0);
        due("rule() of " + t, rule(t), -1 - at);
        due("POWER behind the wrong " + t, x.of(1, 0), power);
    }

    /** Side 1 has 2 5 3, 6 POINTS and RAISED 2. */
    private static void ruled() {
        fresh("w3;111;253;777");
        x.play(1, 0, 0);
        x.play(1, 0, 0);
    }

    private static void theRule() {
        says(TERMS, "a text of at most 40 signs (at first none: the sum of its SKILLS)");
        ruled();
        due("at first none", x.of(1, 0), 10);
        value(times("a+", 19) + "9", 47);
        value(times("a+", 19) + "90", 128);
        wrongAt(times("a+", 19) + "900", 40);
        wrongAt(times("a+", 19) + "90)", 40);
        wrongAt(times("a+", 19) + "9-", 40);
        wrongAt(times("a+", 19) + "9x", 39);
        wrongAt(times("a+", 20), 40);
        wrongAt(times("a+", 20) + "a", 40);
        wrongAt(times("a+", 40), 40);
        value("", 10);

        says(TERMS, "< > = bind least (two; 1 or 0; not one behind the other)");
        ruled();
        String[] texts = {"4<5", "5<5", "6<5", "4>5", "5>5", "6>5", "4=5", "5=5", "6=5", "2+3<3+3", "2+3=3+2", "9-3>2*3",
            "9-2>2*3", "5=-5", "-5<0", "(1<2)=(3<4)", "(5>4)>(5=5)", "1<(2<3)", "(1<2)<2"};
        int[] values = {1, 0, 0, 0, 0, 1, 0, 1, 0, 1, 1, 0, 1, 0, 1, 1, 0, 0, 1};
        for (int k = 0; k < texts.length; k++) {
            value(texts[k], values[k]);
        }
        ruled();
        String[] wrong = {"a<b<c", "a<b>c", "a<b=c", "a=b=c", "a>b+1<c", "(a<b<c)", "a<(b)<c", "a<(b<c)<d", "a<", "<a",
            "a<>b", "a==b", "a<=b"};
        int[] at = {3, 3, 3, 3, 5, 4, 5, 7, 2, 0, 2, 2, 2};
        for (int k = 0; k < wrong.length; k++) {
            wrongAt(wrong[k], at[k]);
        }

        says(TERMS, "then + - (from the left), then * / (from the left; by 0: 0; cut to 0)");
        ruled();
        texts = new String[] {"7-2-1", "7-2+1", "7+2-1", "1+2*3", "2*3+1", "9-6/3", "24/4/2", "24/4*2", "7/2*2", "2*7/2", "7*2/4*2",
            "7/0", "0/0", "-7/0", "7/(1-1)", "1/7", "6/7", "7/7", "13/7", "-6/7", "-7/7", "-13/7", "13/-7", "-13/-7", "0*7"};
        values = new int[] {4, 6, 8, 7, 7, 7, 3, 12, 6, 7, 6,
            0, 0, 0, 0, 0, 0, 1, 1, 0, -1, -1, -1, 1, 0};
        for (int k = 0; k < texts.length; k++) {
            value(texts[k], values[k]);
        }
        ruled();
        wrong = new String[] {"+a", "*a", "/a", "a+", "a*", "a+*b", "a*/b", "a**b", "a-+b", "(+a)"};
        at = new int[] {0, 0, 0, 2, 2, 2, 2, 2, 2, 1};
        for (int k = 0; k < wrong.length; k++) {
            wrongAt(wrong[k], at[k]);
        }
    }

    private static void things() {
        says(TERMS, "then - ahead of a thing (any many)");
        ruled();
        value("-5", -5);
        value("--5", 5);
        value("---5", -5);
        value(times("-", 38) + "35", 35);
        value(times("-", 39) + "3", -3);
        wrongAt(times("-", 40), 40);
        wrongAt("-", 1);
        wrongAt("5-", 2);
        value("2--3", 5);
        value("2---3", -1);
        value("2*-3", -6);
        value("-2*3-1", -7);
        value("-(2-5)", 3);
        value("-a*-b", 10);
        value("-a<-b", 0);
        // what was held when a text went wrong has nothing to do with the next one
        wrongAt("-(-)", 3);
        value("a+b", 7);
        wrongAt("3*(4+", 5);
        value("a-b", -3);

        says(TERMS, "a NUMBER of 1 to 3 digits");
        ruled();
        value("0", 0);
        value("9", 9);
        value("10", 10);
        value("100", 100);
        value("999", 999);
        value("000", 0);
        value("007", 7);
        wrongAt("1000", 3);
        wrongAt("0000", 3);
        wrongAt("a+1000", 5);
        value("999+999", 1998);
        wrongAt("1 1", 1);
        wrongAt("1a", 1);
        wrongAt("a1", 1);
        wrongAt("1:", 1);
        wrongAt("1/:", 2);
        wrongAt(":", 0);
        wrongAt("(1)2", 3);
        wrongAt("12+(3)4", 6);

        says(TERMS, "an EXPRESSION in ( ) (at most 4 in one another)");
        ruled();
        value("(((a)))", 2);
        value("((((a))))", 2);
        wrongAt("(((((a)))))", 4);
        value("((((a))))+((((b))))", 7);
        value("(a+(b+(c+(a))))*2", 24);
        wrongAt("(a+(b+(c+(a+(b)))))", 12);
        wrongAt("((((a))))+(((((b", 14);
        wrongAt("((((a)))", 8);
        wrongAt("((((a)))))", 9);
        wrongAt(")", 0);
        wrongAt("()", 1);
        wrongAt("(a", 2);
        wrongAt("a)", 1);
        wrongAt("a(b)", 1);
        wrongAt("(a)(b)", 3);
        wrongAt("(a)b", 3);

        says(TERMS, "a b c d its SKILL in that ART (0, if there is none such)");
        for (int arts = 1; arts <= 4; arts++) {
            String digits = "7654".substring(0, arts);
            fresh("w" + arts + ";" + "0000".substring(0, arts) + ";" + digits);
            for (int art = 0; art < 4; art++) {
                value(String.valueOf((char) ('a' + art)), art < arts ? 7 - art : 0);
            }
            wrongAt("e", 0);
            wrongAt("A", 0);
            wrongAt("`", 0);
        }

        says(TERMS, "s the sum of its SKILLS, m the greatest of them, l the least of them, i its number, p its POINTS, r RAISED.");
        ruled();
        value("s", 10);
        value("m", 5);
        value("l", 2);
        value("i", 1);
        value("p", 6);
        value("r", 2);
        fresh("w1;0;7");
        value("s", 7);
        value("m", 7);
        value("l", 7);
        fresh("w4;0000;7770;0700;1111;7777;0000;0000;6543");
        String[] letters = {"s", "m", "l", "i", "p", "r"};
        int[] first = {0, 0, 0, 0, 0, 0};
        int[] last = {18, 6, 3, 7, 0, 0};
        int[] second = {21, 7, 0, 1, 0, 0};
        for (int k = 0; k < letters.length; k++) {
            value(letters[k], second[k]);
            due(letters[k], x.of(0, 0), first[k]);
            due(letters[k], x.of(7, 0), last[k]);
        }
    }

    private static void powers() {
        says(TERMS, "As ints, put to -9999 .. 9999.");
        fresh("w1;0;1");
        value("999*10+8", 9998);
        value("999*10+9", 9999);
        value("999*10+10", 9999);
        value("-999*10-8", -9998);
        value("-999*10-9", -9999);
        value("-999*10-10", -9999);
        // at its end alone: what is joined ahead of that may be more
        value("999*999-999*998", 999);
        value("999*20/2", 9990);
        value("999*20>999*19", 1);
        // 128 * 128 * 128 * 128 * 8 is the least int, once more as much is 0
        value("128*128*128*128*8", -9999);
        value("128*128*128*128*8-1", 9999);
        value("128*128*128*128*8/-1", -9999);
        value("-(128*128*128*128*8)", -9999);
        value("128*128*128*128*16", 0);
        value("128*128*128*128*16+5", 5);
        value("128*128*128*128*8<0", 1);
        value("128*128*128*128*8-1<0", 0);
    }

    // ---- THE LAW and GAMES

    private static void theLaw() {
        says(TERMS, "what 0: sort 0 .. 3 (at first 0), 1: UP 1 .. 3 (1), 2: OWN 0 .. 2 (1), 3: EVEN 0 .. 99 (0), 4: EDGE 0 .. 50 (0).");
        int[] first = {0, 1, 1, 0, 0};
        int[] least = {0, 1, 0, 0, 0};
        int[] most = {3, 3, 2, 99, 50};
        for (int what = 0; what < 5; what++) {
            fresh("");
            due("below", x.law(what, least[what] - 1), -1);
            due("above", x.law(what, most[what] + 1), -1);
            due("at first", x.law(what, least[what]), first[what]);
            due("the least", x.law(what, least[what] + 1), least[what]);
            due("the next", x.law(what, most[what] - 1), least[what] + 1);
            due("the last but one", x.law(what, most[what]), most[what] - 1);
            due("above", x.law(what, most[what] + 1), -1);
            due("below", x.law(what, least[what] - 1), -1);
            due("far above", x.law(what, Integer.MAX_VALUE), -1);
            due("far below", x.law(what, Integer.MIN_VALUE), -1);
            due("the most", x.law(what, most[what]), most[what]);
        }
    }

    private static void games() {
        says(TERMS, "if one alone throws it, the other one wins; if both do it is drawn");
        fresh("w1;7;0");
        due("nobody", x.game(0, 1, 0), 0);
        due("the first", x.game(0, 1, 1), 1);
        due("the second", x.game(0, 1, 2), 0);
        due("both", x.game(0, 1, 3), 2);
        due("the first", x.game(1, 0, 1), 1);
        due("the second", x.game(1, 0, 2), 0);
        due("both", x.game(1, 0, 3), 2);
        x.law(3, 99);
        due("by EVEN", x.game(0, 1, 0), 2);
        due("thrown all the same", x.game(0, 1, 1), 1);
        due("thrown all the same", x.game(0, 1, 2), 0);

        says(TERMS, "else who has more POWER by more than EVEN wins, and without one it is drawn.");
        fresh("w1;3;4;5;7");
        due("0 more", x.game(0, 0, 0), -1);
        due("1 more", x.game(1, 0, 0), 0);
        due("1 less", x.game(0, 1, 0), 1);
        x.law(3, 1);
        due("1 more", x.game(1, 0, 0), 2);
        due("1 less", x.game(0, 1, 0), 2);
        due("2 more", x.game(2, 0, 0), 0);
        due("2 less", x.game(0, 2, 0), 1);
        x.law(3, 99);
        rule("a*33");
        due("99 more by 132", x.game(3, 0, 0), 0);
        due("66 more", x.game(2, 0, 0), 2);
        due("33 less", x.game(0, 1, 0), 2);
        rule("a*99");
        due("99 more", x.game(1, 0, 0), 2);
        due("99 less", x.game(0, 1, 0), 2);
        rule("a*100");
        due("100 more", x.game(1, 0, 0), 0);
        due("100 less", x.game(0, 1, 0), 1);
        x.law(3, 0);
        rule("5");
        due("equal", x.game(0, 3, 0), 2);
        rule("0-a");
        due("1 more below 0", x.game(0, 1, 0), 0);
        rule("a*999*9-999*40");
        due("both put to 9999 or more", x.game(0, 3, 0), 1);
        rule("a*999*9");
        due("both put to 9999", x.game(0, 3, 0), 2);

        says(TERMS, "A win is 3 POINTS, a draw 1 for both.");
        fresh("w1;7;0");
        x.play(0, 1, 0);
        points(3, 0);
        x.play(0, 1, 1);
        points(3, 3);
        x.play(0, 1, 3);
        points(4, 4);
        x.play(1, 0, 0);
        points(7, 4);
    }

    private static void sorts() {
        says(TERMS, "Then by sort 0 the winner TEACHES the loser; 1: the loser the winner; 2: the winner the loser, and then the "
            + "loser the winner; 3: nobody.");
        int[][] winnerFirst = {{7, 0, 1, 7}, {7, 1, 0, 7}, {7, 1, 1, 7}, {7, 0, 0, 7}};
        for (int sort = 0; sort < 4; sort++) {
            for (int winner = 0; winner < 2; winner++) {
                fresh("70;07");
                x.law(0, sort);
                x.play(0, 1, winner == 0 ? 2 : 1);
                int[] w = winnerFirst[sort];
                if (winner == 0) {
                    skills(w);
                } else {
                    skills(7, w[2], w[1], 7);
                }
                due("RAISED of the winner", x.of(winner, 2), sort == 0 || sort == 2 ? 1 : 0);
                due("RAISED of the loser", x.of(1 - winner, 2), sort == 1 || sort == 2 ? 1 : 0);
            }
        }
        // the winner gives its lead away, and gets it back as the loser's lead
        fresh("w1;2;1");
        x.law(0, 2);
        x.law(2, 0);
        x.play(0, 1, 2);
        skills(2, 1);

        says(TERMS, "Behind a draw nobody TEACHES.");
        for (int sort = 0; sort < 4; sort++) {
            fresh("70;07");
            x.law(0, sort);
            due("drawn", x.play(0, 1, 0), 2);
            due("drawn", x.play(0, 1, 3), 2);
            skills(7, 0, 0, 7);
            due("RAISED", x.of(0, 2) + x.of(1, 2), 0);
        }
    }

    private static void teaching() {
        says(TERMS, "the ART in which it is furthest above the other one, of equal ones the first; if there is one (above it by 1 or more)");
        taughtIn("w1;3;3", -1);
        taughtIn("w1;4;3", 0);
        taughtIn("w1;3;4", -1);
        taughtIn("33;33", -1);
        taughtIn("34;33", 1);
        taughtIn("44;33", 0);
        taughtIn("45;33", 1);
        taughtIn("54;33", 0);
        taughtIn("72;03", 0);
        taughtIn("21;33", -1);
        taughtIn("w4;0000;7777", -1);
        taughtIn("w4;0001;7770", 3);
        taughtIn("w4;2222;1111", 0);
        taughtIn("w4;2333;1111", 1);
        taughtIn("w4;2334;1111", 3);
        taughtIn("w4;2343;1111", 2);
        taughtIn("w4;7000;0777", 0);

        says(TERMS, "the other one has UP more in it, but no more than who TEACHES (nothing, if that one is ILL): RAISED of who "
            + "TEACHES is that more");
        for (int up = 1; up <= 3; up++) {
            for (int gap = 0; gap <= 4; gap++) {
                fresh("w1;" + (1 + gap) + ";1");
                x.law(1, up);
                x.play(0, 1, 2);
                int more = Math.min(up, gap);
                due("UP " + up + ", " + gap + " above", x.skill(1, 0), 1 + more);
                due("RAISED", x.of(0, 2), more);
                due("RAISED of the other one", x.of(1, 2), 0);
                x.undo();
                x.ill(0, true);
                x.play(0, 1, 2);
                due("ILL", x.skill(1, 0), 1);
                due("RAISED", x.of(0, 2), 0);
                x.undo();
                x.ill(0, false);
                x.ill(1, true);
                x.play(0, 1, 2);
                due("the other one ILL", x.skill(1, 0), 1 + more);
            }
        }

        says(TERMS, "then who TEACHES has OWN less 1 more in that ART (put to 0 .. 7).");
        for (int own = 0; own <= 2; own++) {
            for (int have = 1; have <= 7; have++) {
                fresh("w2;0" + have + ";00");
                x.law(2, own);
                x.play(0, 1, 2);
                skills(0, Math.min(7, have + own - 1), 0, 1);
                x.undo();
                x.ill(0, true);
                x.play(0, 1, 2);
                skills(0, Math.min(7, have + own - 1), 0, 0);
            }
        }
        fresh("w1;3;3");
        x.law(2, 2);
        x.play(0, 1, 2);
        skills(3, 3);
        x.law(2, 0);
        x.play(0, 1, 2);
        skills(3, 3);
    }

    private static void taughtIn(String sides, int art) {
        fresh(sides);
        x.game(0, 1, 2);
        row(art, art < 0 ? 0 : 1);
    }

    // ---- LUCK and DRAWS

    private static void luck() {
        says(TERMS, "By LUCK (EDGE above 0; in wins(), hopes() with EDGE 0 as well: 50)");
        fresh("w1;7;0");
        plan("0-1");
        due("EDGE 0: no LUCK", x.play(0, 1, 0), 0);
        due("EDGE 0: no DRAW", x.seed(1), 1);
        x.wins(0, 1, 1);
        row(1, 2);
        x.hopes(1);
        row(17, 2, 8, 9);
        x.law(4, 1);
        x.play(0, 1, 0);
        due("EDGE 1: a DRAW", x.seed(1), 1103527590);

        says(TERMS, "with a chance of 50 and EDGE times (its POWER less the other one's), put to 0 .. 100, in 100; else by the other "
            + "one (no draws).");
        fresh("w1;0;1;2;7");
        int[] edges = {1, 7, 24, 25, 26, 49, 50};
        int[] oneMore = {51, 57, 74, 75, 76, 99, 100};
        int[] oneLess = {49, 43, 26, 25, 24, 1, 0};
        int[] twoMore = {52, 64, 98, 100, 100, 100, 100};
        int[] twoLess = {48, 36, 2, 0, 0, 0, 0};
        for (int k = 0; k < edges.length; k++) {
            x.law(4, edges[k]);
            due("1 more", x.odds(1, 0), oneMore[k]);
            due("1 less", x.odds(0, 1), oneLess[k]);
            due("2 more", x.odds(2, 0), twoMore[k]);
            due("2 less", x.odds(0, 2), twoLess[k]);
        }
        rule("3");
        due("equal", x.odds(0, 3), 50);
        rule("a*999*9-999*10");
        due("19998 less", x.odds(0, 3), 0);
        due("19998 more", x.odds(3, 0), 100);
        fresh("w1;5;5;4");
        x.law(4, 50);
        x.law(3, 99);
        for (int k = 0; k < 20; k++) {
            due("no draws", x.play(0, 1, 0) == 2, false);
            due("EVEN is nothing to it", x.play(0, 1, 3), 2);
        }
    }

    /** R that leads to this number of a DRAW of 100, by an R that is below 0 or not. */
    private static int seedFor(int drawn, boolean below) {
        for (int seed = 0; ; seed++) {
            int r = seed * 1103515245 + 12345;
            if ((int) ((r & 0xFFFFFFFFL) / 65536 % 100) == drawn && r < 0 == below) {
                return seed;
            }
        }
    }

    private static void drawnOf(int drawn, int edge, int one, int other, int winner) {
        for (int k = 0; k < 2; k++) {
            x.law(4, edge);
            x.seed(seedFor(drawn, k == 0));
            due("a DRAW of " + drawn + " for " + x.odds(one, other), x.play(one, other, 0), winner);
            x.undo();
        }
    }

    private static void draws() {
        says(TERMS, "A GAME with LUCK is drawn for so: a DRAW of 100 below that chance: the first SIDE wins.");
        fresh("w1;1;0;0");
        drawnOf(56, 7, 0, 1, 0);
        drawnOf(57, 7, 0, 1, 1);
        drawnOf(42, 7, 1, 0, 0);
        drawnOf(43, 7, 1, 0, 1);
        drawnOf(49, 7, 1, 2, 0);
        drawnOf(50, 7, 1, 2, 1);
        drawnOf(0, 49, 1, 0, 0);
        drawnOf(1, 49, 1, 0, 1);
        drawnOf(98, 49, 0, 1, 0);
        drawnOf(99, 49, 0, 1, 1);
        drawnOf(99, 50, 0, 1, 0);
        drawnOf(0, 50, 1, 0, 1);

        says(TERMS, "R = R times 1103515245 + 12345 (as ints; R at first 1), (R without sign, by 65536) % n.");
        fresh("w1;1;0");
        due("at first", x.seed(1), 1);
        x.law(4, 50);
        int[] after = {1103527590, -1774065139, 662824084};
        int r = 1;
        for (int k = 0; k < after.length; k++) {
            r = r * 1103515245 + 12345;
            x.play(0, 1, 0);
            due("R", x.seed(r), r);
        }
        due("R behind the first one", 1103515245 + 12345, after[0]);
        x.seed(0);
        x.play(0, 1, 0);
        due("of 0", x.seed(-1), 12345);
        x.play(0, 1, 0);
        due("of -1", x.seed(Integer.MAX_VALUE), -1103502900);
        x.play(0, 1, 0);
        due("of the greatest int", x.seed(1), 1043980748);
        x.play(0, 1, 1);
        x.play(0, 1, 2);
        x.play(0, 1, 3);
        due("thrown: no DRAW", x.seed(1), 1);
        x.law(4, 0);
        x.play(0, 1, 0);
        due("no LUCK: no DRAW", x.seed(1), 1);
    }

    // ---- THE PLAN

    private static void thePlan() {
        String four = "0!-1!,2!-3!;";
        says(TERMS, "THE PLAN is a text of at most 76 signs (at first none)");
        fresh("11;22;33;44");
        due("at first none", x.count(2), 0);
        due("at first none", x.rounds(1), -1);
        due("75", plan(times(four, 5) + "0-1;0-1,2-3;0-1"), 8);
        due("75 that should go on", plan(times(four, 6) + "0!-"), -76);
        due("76", plan(times(four, 6) + "0-1!"), 7);
        due("76 that should go on", plan(times(four, 6) + "0-1;"), -77);
        due("77", plan(times(four, 6) + "0!-1!"), -77);
        due("77, the first 76 don't end", plan(times(four, 5) + "0-1;0!-1,2-3!;0!-1"), -77);
        due("77, wrong at 75", plan(times(four, 6) + "0-1x!"), -76);
        due("77, wrong at 76", plan(times(four, 6) + "0-1!x"), -77);
        due("80", plan(times(four, 6) + "0-1!;2-3"), -77);
        due("as it was", x.count(2), 7);
        due("as it was", x.count(8), 13);

        says(TERMS, "ROUNDS with ; between (at most 12)");
        fresh("11;22");
        due("one", plan("0-1"), 1);
        due("two", plan("0-1;1-0"), 2);
        due("eleven", plan(times("0-1;", 10) + "0-1"), 11);
        due("twelve", plan(times("0-1;", 11) + "0-1"), 12);
        due("a thirteenth", plan(times("0-1;", 12) + "0-1"), -49);
        due("twelve", x.count(2), 12);
        due("no ROUND behind it", plan("0-1;"), -5);
        due("no ROUND between", plan("0-1;;0-1"), -5);
        due("no ROUND ahead", plan(";0-1"), -1);

        says(TERMS, "each of GAMES with , between: a SIDE, perhaps ! (it throws it), -, another SIDE, perhaps !; no SIDE twice in a "
            + "ROUND.");
        fresh("w1;0;1;2;3;4;5;6;7");
        due("four GAMES", plan("0-1,2-3,4-5,6-7"), 1);
        due("count(8)", x.count(8), 4);
        due("a fifth GAME", plan("0-1,2-3,4-5,6-7,0-1"), -17);
        due("a fifth GAME to come", plan("0-1,2-3,4-5,6-7,"), -17);
        due("a fifth GAME in the next ROUND", plan("0-1,2-3,4-5,6-7;0-1"), 2);
        due("against itself", plan("3-3"), -3);
        due("twice", plan("0-1,1-2"), -5);
        due("twice", plan("0-1,2-0"), -7);
        due("once more in the next ROUND", plan("0-1;1-0"), 2);
        due("no GAME ahead", plan(",0-1"), -1);
        due("no GAME between", plan("0-1,,2-3"), -5);
        due("twice !", plan("0!!-1"), -3);
        due("twice !", plan("0-1!!"), -5);
        due("no -", plan("01"), -2);
        due("two -", plan("0--1"), -3);
        due("! ahead", plan("!0-1"), -1);
        throwers();

        says(TERMS, "SIDES are digits.");
        fresh("w1;0;1;2;3;4;5;6;7");
        due("the last", plan("6-7"), 1);
        due("none such", plan("6-8"), -3);
        due("none such", plan("9-0"), -1);
        due("no digit", plan("/-0"), -1);
        due("no digit", plan("0-:"), -3);
        fresh("w1;0;1;2");
        due("the last", plan("2-1"), 1);
        due("none such", plan("3-1"), -1);
        due("none such", plan("1-3"), -3);
        fresh("");
        due("none at all", plan("0-1"), -1);
    }

    private static void throwers() {
        String[] plans = {"0-1", "0!-1", "0-1!", "0!-1!"};
        int[][] points = {{0, 3}, {0, 3}, {3, 0}, {1, 1}};
        fresh("w1;0;1");
        x.law(0, 3);
        for (int twice = 0; twice < 2; twice++) {
            for (int k = 3; k >= 0; k--) {
                // THE PLAN ahead of it leaves nothing of what was thrown there
                int[] threw = {x.of(0, 4), x.of(1, 4)};
                int[] had = {x.of(0, 1), x.of(1, 1)};
                due(plans[k], plan(plans[k]), 1);
                x.rounds(1);
                due("the first threw it", x.of(0, 4) - threw[0], k & 1);
                due("the second threw it", x.of(1, 4) - threw[1], k >> 1);
                due("POINTS", x.of(0, 1) - had[0], points[k][0]);
                due("POINTS", x.of(1, 1) - had[1], points[k][1]);
            }
            plan("0!-1!");
            plan("0!-1!");
            x.circle();
            x.rounds(1);
            due("nobody throws a circle", x.of(0, 4), 2 * twice + 2);
            x.undo();
        }
    }

    private static void planGoesOn() {
        says(TERMS, "ROUNDS go by THE PLAN again and again, GAMES in order, each by SKILLS and POINTS as they are then.");
        fresh("w1;5;1;0");
        plan("0-1;2-1");
        int[] next = {1, 0, 1, 0};
        for (int k = 0; k < next.length; k++) {
            due("one GAME", x.rounds(1), 1);
            due("next", x.count(3), next[k]);
        }
        fresh("w1;5;1;0");
        plan("0-1;0-2;1-2");
        x.rounds(3);
        // as 1 was taught by 0 ahead of it, it teaches 2 what is more than 2 was taught
        skills(5, 2, 2);
        due("by SKILLS as they are then", x.of(1, 2), 1);
        fresh("w1;1;0;0");
        x.law(0, 3);
        rule("0-p");
        plan("0-1");
        x.rounds(1);
        points(1, 1);
        x.play(0, 2, 2);
        x.rounds(1);
        points(4, 4, 0);
    }

    // ---- the ROW, searches

    private static void rowsAndFractions() {
        says(TERMS, "ROW: numbers told last by a call that says so.");
        fresh("w1;0;2;4");
        row();
        x.game(0, 1, 0);
        row(0, 1);
        x.play(0, 1, 0);
        row(0, 3);
        x.table();
        row(1, 2, 0);
        // calls that tell none leave it
        x.skill(0, 0);
        x.of(0, 0);
        x.law(1, 1);
        x.ill(0, false);
        x.swap(0, 1);
        x.odds(0, 1);
        x.undo();
        x.circle();
        x.seed(1);
        x.seen(0, 1, 1);
        x.keep(0);
        x.again(0);
        x.count(0);
        x.soon(0, 0, 1);
        x.sheet(0, 2, 3, 0, 2);
        rule("s");
        plan("0-1");
        league("7");
        row(1, 2, 0);
        x.quick(0);
        row();

        says(TERMS, "Rows of numbers are compared from the first on.");
        fresh("w1;0;2;4");
        x.top(0, 0, 4);
        row(1, 1, 2, 2);
        x.quick(4);
        row(1, 1, 2, 1, 2, 1);

        says(TERMS, "A GAME is told as 100 times what (0: nobody throws it, 1: the first does, 2: the second), and 10 times the lesser "
            + "SIDE (it is the first), and the other one.");
        fresh("w1;0;0;0;0;0;0;1;7");
        due("nobody", x.next(6), 67);
        x.law(0, 1);
        due("the second", x.next(6), 267);
        fresh("w1;7;0;0");
        x.top(2, 0, 1);
        row(2);
        rule("7-a");
        x.top(2, 0, 1);
        row(202);
        fresh("w1;0;0;7");
        rule("7-a");
        x.top(1, 0, 1);
        row(112);

        says(TERMS, "Fractions are told in lowest terms, upper and lower number (0 by 1).");
        fresh("w1;0;0;0");
        plan("0!-1;2!-0;1!-2!");
        wins(1, 1, 1, 1, 1);
        wins(1, 1, 0, 0, 1);
        wins(1, 6, 3, 0, 1);
        plan("0-1");
        wins(1, 1, 1, 1, 2);
        wins(1, 6, 6, 1, 64);
        wins(1, 6, 3, 5, 16);
        x.law(4, 1);
        x.hopes(6);
        row(0, 1, 0, 0);
    }

    private static void wins(int side, int n, int k, long upper, long lower) {
        due("wins", x.wins(side, n, k), 0);
        row(upper, lower);
    }

    private static void searches() {
        says(TERMS, "Searches are without LUCK (as if EDGE was 0), with POWER by POINTS and RAISED as they are now");
        fresh("w1;5;1");
        rule("s+p*9+r*9");
        x.law(4, 50);
        plan("0-1");
        x.play(0, 1, 1);
        points(0, 3);
        due("best", x.best(1, 4), 32);
        row(4);
        due("quick", x.quick(10), -2);
        due("next", x.next(1), 201);
        row(29);
        due("even", x.even(9), 27 + 1 - 5);
        row(0);
        due("rest", x.rest(), 0);
        row(1, 6);
        due("R stays", x.seed(1), 1);

        says(TERMS, "all STATES that can come (or, where it is so told, within n GAMES) are counted first: more than 3000: -3.");
        tooMany("w2;07;50;17;50;50", 0, 2, 1, 3000, 60, 30, 17);
        tooMany("w3;576;424;667;774", 0, 1, 1, 3000, 84, 65, 19);
        tooMany("w3;735;223!;757;323", 0, 1, 1, 2999, 76, 49, 27);
        tooMany("w3;743;032;137", 0, 2, 2, -3, 0, 0, 0);
        within("w4;6500;7673;2706;4337;6067;2651", 0, 1, 2, 3, false);
        within("w3;644;405;466;717;510;440", 0, 1, 2, 3, true);
        within("w4;6617;3152;2210", 0, 3, 2, 7, false);
        within("w3;426;013;065;634", 1, 1, 1, 7, true);
        within("w4;5553;5746;4500;0400", 0, 1, 1, 9, false);
        within("w4;0424;3715;1521;4742", 0, 3, 1, 8, true);
    }

    private static void seasonsAndOrders() {
        says(TERMS, "---- seasons without end (by THE PLAN, from now, from its first ROUND on; without LUCK; POWER with POINTS and RAISED as "
            + "they are now).");
        fresh("w1;5;1");
        rule("s+p*2");
        plan("0!-1;0-1");
        x.law(4, 50);
        // with 3 POINTS more behind the first GAME 1 would win the second one too
        due("POINTS as they are now", x.rest(), 4);
        row(1, 10);
        due("POINTS as they are now", x.soon(1, 0, 3), 2);
        rule("s-r*9");
        plan("0-1;0-1");
        due("RAISED as it is now", x.rest(), 2);
        row(1, 10);
        due("RAISED as it is now", x.mean(1, 0), 0);
        row(5, 1);
        due("no DRAW", x.seed(1), 1);
        fresh("w1;5;1;1");
        plan("0-1;1-2");
        x.rounds(1);
        x.undo();
        due("next", x.count(3), 1);
        due("from its first ROUND on", x.soon(2, 0, 2), 1);
        due("from its first ROUND on", x.rest(), 4);
        row(1, 15);
        due("next stays", x.count(3), 1);
        x.rounds(3);
        skills(5, 2, 2);
        due("from now", x.rest(), 3);
        row(1, 15);

        says(TERMS, "---- orders of play (any GAMES of any two, thrown or not, one behind the other).");
        fresh("w1;5;1;3");
        rule("0-a");
        due("thrown by who has more POWER", x.top(1, 0, 2), 1);
        row(112);
        due("thrown by who has more POWER", x.top(2, 0, 4), 1);
        row(202);
        due("one behind the other", x.top(1, 0, 4), 3);
        row(112, 112, 201);
    }

    private static void lawFor(String sides, int sort, int up, int own) {
        fresh(sides);
        x.law(0, sort);
        x.law(1, up);
        x.law(2, own);
    }

    /** 3000 STATES can be counted, 3001 are too many. */
    private static void tooMany(String sides, int sort, int up, int own, int all, int most, int least, int games) {
        lawFor(sides, sort, up, own);
        x.kings();
        long kept = x.row(0);
        due("all", x.all(), all);
        due("top", x.top(0, 0, 0), all == -3 ? -3 : 0);
        due("quick", x.quick(0), all == -3 ? -3 : 0);
        due("never", x.quick(Integer.MAX_VALUE), all == -3 ? -3 : -2);
        if (all == -3) {
            row(kept);
        } else {
            x.all();
            row(most, least, games);
        }
        due("within no GAME", x.best(0, 0) >= 0, true);
        row(0);
    }

    /** Within n GAMES 3000 STATES can come, or 3001. */
    private static void within(String sides, int sort, int up, int own, int n, boolean tooMany) {
        lawFor(sides, sort, up, own);
        x.kings();
        long kept = x.row(0);
        if (tooMany) {
            due("best", x.best(0, n), -3);
            due("even", x.even(n), -3);
            due("all", x.all(), -3);
            row(kept);
        }
        due("best", x.best(0, tooMany ? n - 1 : n) > 0, true);
        due("even", x.even(tooMany ? n - 1 : n) >= 0, true);
        due("the row", x.count(6), 1);
    }
}
