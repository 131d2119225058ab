/** Promises 1 to 13, of the league: ordinary inputs, edges that the document names, wrong inputs. */
public final class LeagueTest extends Checks {
    public static void main(String[] args) {
        texts();
        theLeague();
        finish();
    }

    // ---- promises 1 to 6

    private static void texts() {
        promise = 1;
        fresh("");
        int[] first = {0, 2, 0, 0, 0, 0, 0, 0, 0};
        for (int what = 0; what < first.length; what++) {
            due("count(" + what + ")", x.count(what), first[what]);
        }
        int[] law = {0, 1, 1, 0, 0};
        for (int what = 0; what < law.length; what++) {
            due("law(" + what + ")", x.law(what, law[what]), law[what]);
        }
        due("seed", x.seed(5), 1);
        due("NONE", WinnerTeaches.NONE, -1);

        promise = 2;
        due("sign", x.sign('1' << 24 | '2' << 16 | ';' << 8 | '3'), 4);
        due("sign", x.sign('4' << 24), 8);
        x.end(5);
        due("league()", x.league(), 2);
        skills(1, 2, 3, 4);
        for (int k = 1; k <= 20; k++) {
            due("sign", x.sign(-1), 4 * k);
        }
        due("sign beyond 80", x.sign(0), -1);
        due("count(7)", x.count(7), 80);
        x.end(77);
        due("sign beyond 80", x.sign(0), -1);
        x.end(76);
        due("sign up to 80", x.sign(0), 80);

        promise = 3;
        due("end(81)", x.end(81), false);
        due("end(-1)", x.end(-1), false);
        due("count(7)", x.count(7), 80);
        due("end(80)", x.end(80), true);
        due("end(3)", x.end(3), true);
        due("end(4)", x.end(4), false);
        due("count(7)", x.count(7), 3);
        due("end(0)", x.end(0), true);
        due("end(0)", x.end(0), true);

        leagueTexts();
        ruleTexts();
        planTexts();
        everySign();
    }

    /** Each of the 256 signs behind a start, at each place where a text can go on in another way. */
    private static void everySign() {
        String digits = "0123456789";
        String joins = "+-*/<>=";
        String things = digits + "abcdsmlipr(-";
        promise = 5;
        String[] starts = {"", "-", "a+", "a*-", "a<", "(", "p", "(a)", "s-a", "a<b", "(a<b", "1", "12", "123", "((((", "((((a",
            "(a<b)", "a/(b"};
        String[] can = {things, things, things, things, things, things, joins, joins, joins, "+-*/", "+-*/)", joins + digits,
            joins + digits, joins, digits + "abcdsmlipr-", joins + ")", joins, joins + ")"};
        behindEach(starts, can);
        promise = 4;
        starts = new String[] {"", "w", "w3", "w1;", "1", "12", "12!", "12;", "w1;7", "w4;123", "w4;1234"};
        can = new String[] {"w01234567", "1234", ";", "w01234567", "01234567", ";!", ";", "w01234567", ";!", "01234567",
            ";!"};
        behindEach(starts, can);
        promise = 6;
        starts = new String[] {"", "0", "0!", "0-", "0!-", "0-1", "0-1!", "0-1,", "0-1;"};
        can = new String[] {"012", "-!", "-", "12", "12", ",;!", ",;", "2", "012"};
        behindEach(starts, can);
    }

    private static void behindEach(String[] starts, String[] can) {
        for (int k = 0; k < starts.length; k++) {
            for (char c = 0; c < 256; c++) {
                if (c % 32 == 0) {
                    fresh("w2;12;34;56");
                }
                // X can stand nowhere: it tells whether the sign ahead of it could
                String t = starts[k] + c + "X";
                int at = starts[k].length() + (can[k].indexOf(c) >= 0 ? 1 : 0);
                due(t, promise == 4 ? league(t) : promise == 5 ? rule(t) : plan(t), -1 - at);
            }
        }
    }

    private static void leagueTexts() {
        promise = 4;
        fresh("");
        due("empty", league(""), 0);
        due("sides", league("07;70!;34"), 3);
        skills(0, 7, 7, 0, 3, 4);
        due("ill", x.of(0, 3), 0);
        due("ill", x.of(1, 3), 1);
        x.play(0, 1, 0);
        x.play(0, 2, 1);
        due("more sides", league("11"), 1);
        due("sides", x.count(0), 4);
        points(1, 1, 3, 0);
        due("count(4)", x.count(4), 0);
        x.circle();
        x.seen(0, 1, 0);
        String[] texts = {"x", "8", "1", "18", "12;", ";", "12!!", "12!3", "123", "12;;", "w", "w0", "w5", "w2!",
            "w21", "w3;123;12", "w3;12;", "w2;12;w", "12;1-", "12!;w9", "12;34\0", "!"};
        int[] at = {0, 0, 1, 1, 3, 0, 3, 3, 2, 3, 1, 1, 1, 2, 2, 9, 5, 7, 4, 5, 5, 0};
        for (int k = 0; k < texts.length; k++) {
            due(texts[k], league(texts[k]), -1 - at[k]);
            due("count(7)", x.count(7), 0);
            due("count(0)", x.count(0), 4);
            due("count(1)", x.count(1), 2);
            due("count(2)", x.count(2), 3);
            due("count(5)", x.count(5), 1);
        }
        points(1, 1, 3, 0);
        due("a ninth", league("11;22;33;44;55"), -13);
        due("sides", x.count(0), 4);
        due("up to eight", league("11;22;33;44"), 4);
        due("a ninth", league("1"), -1);
        due("wrong where a ninth would be", league("x"), -1);
        due("count(2)", x.count(2), 3);
        due("room by w", league("w1;7;6!"), 3);
        due("sides", x.count(0), 2);
        due("arts", x.count(1), 1);
        due("plan", x.count(2), 0);
        due("next round", x.count(3), 0);
        due("seen", x.count(5), 0);
        skills(7, 6);
        due("ill", x.of(1, 3), 1);
        due("nothing is left", x.all(), 2);
        row(14, 13, 1);
        due("w alone", league("w4"), 1);
        due("none", x.count(0), 0);
        due("ill is gone", league("1234;5670"), 2);
        due("ill", x.of(1, 3), 0);
        due("row of 76", league(times("w1;", 24) + "w2;7"), -77);
        due("row of 76", league(times("w1;", 24) + "w1;7"), 26);
        due("77 signs", league(times("w1;", 24) + "w1;7!"), -77);
        due("80 signs", league(times("w1;", 26) + "w1"), -77);
        due("80 signs, one wrong ahead", league("w1;8" + times("w1;", 25)), -4);
        due("76, wrong at the last", league(times("w1;", 25) + "8"), -76);
        due("75 and more to come", league(times("w1;", 25)), -76);
        skills(7);
        forgets();
    }

    private static void forgets() {
        fresh("55;11");
        x.keep(0);
        x.play(0, 1, 0);
        due("empty", league(""), 0);
        due("count(4)", x.count(4), 1);
        due("again", x.again(0), true);
        x.play(0, 1, 0);
        due("refused", league("9"), -1);
        due("count(4)", x.count(4), 1);
        due("again", x.again(0), true);
        x.play(0, 1, 0);
        due("told", league("33"), 1);
        due("count(4)", x.count(4), 0);
        due("again", x.again(0), false);
        x.seed(77);
        x.law(1, 3);
        rule("a");
        due("w", league("w3;123"), 2);
        due("R stays", x.seed(1), 77);
        due("law stays", x.law(1, 1), 3);
        due("rule stays", x.of(0, 0), 1);
    }

    private static void value(String t, int want) {
        due("rule() of " + t, rule(t), 0);
        due("power by " + t, x.of(1, 0), want);
    }

    private static void ruleTexts() {
        promise = 5;
        fresh("w3;111;253;777");
        x.play(1, 0, 0);
        x.play(1, 0, 0);
        // side 1: 2 5 3, 6 points, raised 2
        String[] texts = {"a", "b", "c", "d", "s", "m", "l", "i", "p", "r", "0", "999", "007", "1+2*3", "(1+2)*3",
            "7-2-1", "7-(2-1)", "24/4/2", "24/(4/2)", "7/2", "-7/2", "7/-2", "7/0", "-7/(1-1)", "--5", "-5", "---5",
            "2--3", "2*-3", "-2*-3", "1<2", "2<1", "1<1", "2>1", "1>2", "1=1", "1=2", "1+1=2", "1=1+1", "(1<2)<3",
            "1<-1", "2*3=6", "(2=2)+5", "((((a))))", "(a)+(b)", "999*999", "-999*999", "999*999*999*999*999",
            "0-999*11", "9*(1111)", "s-10", "a*100+b*10+c"};
        int[] values = {2, 5, 3, 0, 10, 5, 2, 1, 6, 2, 0, 999, 7, 7, 9,
            4, 6, 3, 12, 3, -3, -3, 0, 0, 5, -5, -5,
            5, -6, 6, 1, 0, 0, 1, 0, 1, 0, 1, 0, 1,
            0, 1, 6, 2, 7, 9999, -9999, clamped(999 * 999 * 999 * 999 * 999),
            -9999, 0, 0, 253};
        for (int k = 0; k < texts.length; k++) {
            if (texts[k].equals("9*(1111)")) {
                due(texts[k], rule(texts[k]), -7);
            } else {
                value(texts[k], values[k]);
            }
        }
        fresh("w3;111;253;777");
        x.play(1, 0, 0);
        x.play(1, 0, 0);
        value("a+b", 7);
        String[] bad = {"x", "a+", "a<b<c", "a=b>c", "(a", "(((((a", "1000", "a b", ")", "a)", "()", "+a", "*a", "a**b",
            "ab", "a1", "1a", "(a)(b)", "(a)1", "1(a)", "(a<b<c)", "a<(b<c)<d", "-", "(-", "e", "a<", "12-", "((((1)))",
            "((((1)))))", "(((((", "A", "a\0", "1<2+(3<4)<5", "(1)2", "1+a2", "1000-1"};
        int[] at = {0, 2, 3, 3, 2, 4, 3, 1, 0, 1, 1, 0, 0, 2,
            1, 1, 1, 3, 3, 1, 4, 7, 1, 2, 0, 2, 3, 8,
            9, 4, 0, 1, 9, 3, 3, 3};
        for (int k = 0; k < bad.length; k++) {
            due(bad[k], rule(bad[k]), -1 - at[k]);
            due("count(7)", x.count(7), 0);
            due("the rule stays", x.of(1, 0), 7);
        }
        due("40 signs", rule(times("a+", 19) + "10"), 0);
        due("power", x.of(1, 0), 48);
        due("41 signs", rule(times("a+", 20) + "1"), -41);
        due("41 signs", rule(times("a+", 19) + "1010"), -41);
        due("41 signs", rule(times("a+", 19) + "a+a"), -41);
        due("80 signs", rule(times("-", 80)), -41);
        due("40 signs, too early an end", rule(times("a+", 20)), -41);
        due("wrong ahead of 40", rule("a+)" + times("a+", 30)), -3);
        due("power", x.of(1, 0), 48);
        value(times("-", 39) + "3", -3);
        due("none", rule(""), 0);
        due("power", x.of(1, 0), 10);
        due("count(4): undo stays", x.count(4), 2);
        fresh("w3;000;716;352;427");
        String[] letters = {"m", "l", "s", "a", "b", "c", "d", "i"};
        int[][] of = {{0, 0, 0, 0, 0, 0, 0, 0}, {7, 1, 14, 7, 1, 6, 0, 1}, {5, 2, 10, 3, 5, 2, 0, 2}, {7, 2, 13, 4, 2, 7, 0, 3}};
        for (int k = 0; k < letters.length; k++) {
            due(letters[k], rule(letters[k]), 0);
            for (int side = 0; side < 4; side++) {
                due(letters[k], x.of(side, 0), of[side][k]);
            }
        }
    }

    private static int clamped(int v) {
        return Math.max(-9999, Math.min(9999, v));
    }

    private static void planTexts() {
        promise = 6;
        fresh("");
        due("empty", plan(""), 0);
        due("no sides", plan("0-1"), -1);
        fresh("11;22;33;44");
        due("games", plan("0-1,2!-3;3-0!;1!-2!"), 3);
        due("count(2)", x.count(2), 3);
        due("count(8)", x.count(8), 4);
        due("rounds", x.rounds(1), 2);
        points(0, 3, 0, 3);
        due("thrown", x.of(2, 4), 1);
        due("rounds", x.rounds(2), 2);
        points(0, 4, 1, 6);
        due("thrown", x.of(0, 4), 1);
        due("thrown", x.of(1, 4), 1);
        due("thrown", x.of(2, 4), 2);
        x.rounds(1);
        due("count(3)", x.count(3), 1);
        String[] bad = {"0", "0-", "0-0", "0-4", "0-9", "4-0", "x", "0-1,", "0-1,1-2", "0-1,2-0", "0-1;", "0!-1!!", "0!!-1",
            "0-1-2", "01", "0-1,2-3,", "0-1;;", "0-1,;", "-", "0-1 ", "0-1,2-3;2-2", "0-!1", "!0-1", ";0-1"};
        int[] at = {1, 2, 2, 2, 2, 0, 0, 4, 4, 6, 4, 5, 2,
            3, 1, 8, 4, 4, 0, 3, 10, 2, 0, 0};
        for (int k = 0; k < bad.length; k++) {
            due(bad[k], plan(bad[k]), -1 - at[k]);
            due("count(7)", x.count(7), 0);
            due("count(2)", x.count(2), 3);
            due("count(3)", x.count(3), 1);
            due("count(8)", x.count(8), 4);
        }
        due("12 rounds", plan(times("0-1;", 11) + "2-3"), 12);
        due("count(3)", x.count(3), 0);
        due("a thirteenth", plan(times("0-1;", 12) + "2-3"), -49);
        due("a thirteenth to come", plan(times("0-1;", 12)), -49);
        due("a thirteenth, wrong too", plan(times("0-1;", 12) + "x"), -49);
        String eight = "0!-1!,2!-3!;";
        due("76 signs", plan(times(eight, 5) + "0!-1,2!-3;0-1!,2"), -77);
        due("74 signs", plan(times(eight, 6) + "2-"), -75);
        due("76 signs", plan(times(eight, 5) + "0-1;0!-1,2-3!;0!"), -77);
        due("76 signs", plan(times(eight, 5) + "0-1;0!-1,2!-3;01"), -76);
        due("76 signs that end", plan(times(eight, 6) + "0-1!"), 7);
        due("77 signs", plan(times(eight, 6) + "0-1!;"), -77);
        due("80 signs", plan(times(eight, 6) + "0-1!;2-3"), -77);
        due("80 signs, wrong ahead", plan(times(eight, 6) + "0-0!;2-3"), -75);
        due("count(2)", x.count(2), 7);
        due("empty", plan(""), 0);
        due("count(8)", x.count(8), 0);
        due("rounds", x.rounds(1), -1);
    }

    // ---- promises 7 to 13

    private static void theLeague() {
        promise = 7;
        fresh("w3;123;456");
        due("skill", x.skill(1, 2), 6);
        due("skill", x.skill(0, 0), 1);
        due("skill", x.skill(2, 0), -1);
        due("skill", x.skill(-1, 0), -1);
        due("skill", x.skill(0, 3), -1);
        due("skill", x.skill(0, -1), -1);

        promise = 8;
        fresh("50;23;04!");
        x.play(0, 2, 0);
        x.play(0, 2, 2);
        x.play(1, 2, 3);
        due("power", x.of(0, 0), 5);
        due("power", x.of(2, 0), 6);
        points(6, 1, 1);
        due("raised", x.of(0, 2), 2);
        due("raised", x.of(2, 2), 0);
        due("ill", x.of(2, 3), 1);
        due("ill", x.of(0, 3), 0);
        due("thrown", x.of(0, 4), 0);
        due("thrown", x.of(1, 4), 1);
        due("thrown", x.of(2, 4), 2);
        due("of(3, 0)", throwsOf(3, 0), true);
        due("of(-1, 0)", throwsOf(-1, 0), true);
        due("of(0, 5)", throwsOf(0, 5), true);
        due("of(0, -1)", throwsOf(0, -1), true);
        due("of(2, 4)", throwsOf(2, 4), false);

        promise = 9;
        int[] least = {0, 1, 0, 0, 0};
        int[] most = {3, 3, 2, 99, 50};
        int[] first = {0, 1, 1, 0, 0};
        for (int what = 0; what < 5; what++) {
            due("law above", x.law(what, most[what] + 1), -1);
            due("law below", x.law(what, least[what] - 1), -1);
            due("law", x.law(what, most[what]), first[what]);
            due("law", x.law(what, least[what]), most[what]);
            due("law", x.law(what, first[what]), least[what]);
        }
        due("law(5)", x.law(5, 1), -1);
        due("law(-1)", x.law(-1, 1), -1);
        sheets();
        sides();
        circles();
    }

    private static void sheets() {
        promise = 10;
        fresh("11;22;33");
        due("bytes", x.sheet(0, 0, 3, 253, 2), 1 + 0 + 0);
        skills(0, 1, 0, 2, 1, 3);
        due("bytes below 0", x.sheet(0, 0, 3, 127, 1), 7);
        skills(7, 1, 0, 2, 0, 3);
        due("shorts", x.sheet(1, 1, 3, 65535, 2), 0 + 1 + 3);
        skills(7, 0, 0, 1, 0, 3);
        due("shorts", x.sheet(1, 1, 3, 127, 1), 21);
        due("ints", x.sheet(1, 2, 3, 65537, -1), 21);
        due("ints", x.sheet(1, 2, 3, Integer.MAX_VALUE, 1), 7);
        skills(7, 7, 0, 0, 0, 0);
        due("ints", x.sheet(1, 2, 3, -1, 2), 0 + 1 + 3);
        due("fewer", x.sheet(1, 2, 2, 5, 1), 5 + 6);
        skills(7, 5, 0, 6, 0, 0);
        due("more", x.sheet(1, 2, 8, 1, 1), 1 + 2 + 3);
        due("none", x.sheet(0, 2, 0, 5, 1), 0);
        skills(0, 1, 0, 2, 0, 3);
        due("below 0", x.sheet(1, 0, -1, 5, 1), -2);
        due("below 0", x.sheet(1, 1, Integer.MIN_VALUE, 5, 1), -2);
        due("below 0", x.sheet(1, 2, -1, 5, 1), -2);
        due("no such art", x.sheet(2, 2, -1, 5, 1), -1);
        due("no such art", x.sheet(-1, 3, 1, 5, 1), -1);
        due("another kind", x.sheet(0, 4, -1, 5, 1), -1);
        due("another kind", x.sheet(0, -1, 1, 5, 1), -1);
        due("above 8", x.sheet(0, 0, 9, 5, 1), -1);
        due("above 8, missing", x.sheet(0, 3, 9, 5, 1), -1);
        skills(0, 1, 0, 2, 0, 3);
        x.play(0, 1, 0);
        due("nothing changes", x.sheet(1, 0, -1, 5, 1), -2);
        due("refused", x.sheet(2, 0, 1, 5, 1), -1);
        due("count(4)", x.count(4), 1);
        due("missing", x.sheet(1, 3, -5, 5, 1), -3);
        skills(0, 0, 0, 0, 0, 0);
        due("count(4)", x.count(4), 0);
        x.play(0, 1, 0);
        x.sheet(0, 2, 1, 5, 1);
        due("count(4)", x.count(4), 0);
        fresh("");
        due("no sides", x.sheet(1, 0, 8, 5, 1), 0);
        due("no sides", x.sheet(1, 3, 8, 5, 1), -3);
    }

    private static void sides() {
        promise = 11;
        fresh("50;23;04!");
        due("ill", x.ill(2, false), true);
        due("of", x.of(2, 3), 0);
        due("ill", x.ill(1, true), true);
        due("ill", x.ill(1, true), true);
        due("of", x.of(1, 3), 1);
        due("of", x.of(0, 3), 0);
        due("ill", x.ill(3, true), false);
        due("ill", x.ill(-1, true), false);
        x.play(1, 0, 2);
        skills(5, 0, 2, 3, 0, 4);
        due("raised", x.of(1, 2), 0);
        due("forgets nothing", x.count(4), 1);
        x.ill(1, false);
        due("ill is not undone", x.undo(), 0);
        due("ill is not undone", x.of(1, 3), 0);

        promise = 12;
        x.ill(2, true);
        x.play(0, 1, 0);
        due("swap", x.swap(0, 2), true);
        skills(0, 4, 2, 3, 5, 0);
        due("ill stays", x.of(2, 3), 1);
        points(1, 1, 0);
        due("count(4)", x.count(4), 0);
        x.play(0, 1, 3);
        due("alike", x.swap(1, 1), false);
        due("none", x.swap(0, 3), false);
        due("none", x.swap(-1, 0), false);
        due("count(4)", x.count(4), 1);
    }

    /** Games of equal sides by LUCK tell who is first: the draws are known. */
    private static void plays(int... want) {
        x.law(4, 1);
        x.law(0, 3);
        x.seed(1);
        int r = 1;
        int[] points = new int[8];
        for (int g = 0; g < want.length; g++) {
            r = r * 1103515245 + 12345;
            points[((r >>> 16) % 100 < 50 ? want[g] / 10 : want[g] % 10)] += 3;
        }
        for (int i = 0; i < x.count(2); i++) {
            x.rounds(1);
        }
        due("games", x.count(8), want.length);
        for (int side = 0; side < x.count(0); side++) {
            due("points", x.of(side, 1), points[side]);
        }
    }

    private static void circles() {
        promise = 13;
        fresh("w1");
        rule("0");
        due("none", x.circle(), -1);
        league("1");
        due("one alone", x.circle(), -1);
        league("1");
        due("two", x.circle(), 1);
        plays(1);
        league("w1;1;1;1");
        due("three", x.circle(), 3);
        plays(12, 2, 1);
        league("w1;1;1;1;1");
        due("four", x.circle(), 3);
        plays(3, 12, 2, 31, 1, 23);
        league("w1;1;1;1;1;1");
        due("five", x.circle(), 5);
        plays(14, 23, 4, 12, 3, 42, 2, 31, 1, 34);
        league("w1;1;1;1;1;1;1;1;1");
        due("eight", x.circle(), 7);
        due("count(8)", x.count(8), 28);
        plan("0-1;2-3");
        x.rounds(1);
        due("circle", x.circle(), 7);
        due("the first round", x.count(3), 0);
    }
}
