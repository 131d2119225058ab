/** Promises 36 to 45, of who shows, who raises and what is kept: ordinary inputs, edges, wrong inputs. */
public final class ShowsTest extends Checks {
    public static void main(String[] args) {
        seen();
        prize();
        pays();
        laws();
        seed();
        kept();
        counts();
        finish();
    }

    private static void seen() {
        promise = 36;
        fresh("");
        due("nobody there", x.seen(0, 1, 0), -1);
        league("50;23;04!");
        due("alike", x.seen(1, 1, 0), -1);
        due("none such", x.seen(0, 3, 0), -1);
        due("none such", x.seen(-1, 0, 0), -1);
        due("won", x.seen(0, 1, 3), -1);
        due("won", x.seen(0, 1, -1), -1);
        for (int k = 1; k <= 12; k++) {
            due("seen", x.seen(k % 3, (k + 1) % 3, k % 3), k);
        }
        due("12", x.seen(0, 1, 0), -1);
        due("count(5)", x.count(5), 12);
        league("33");
        due("more sides", x.count(5), 12);
        league("w1");
        due("w", x.count(5), 0);

        promise = 37;
        fresh("");
        due("nobody", x.found(), 0);
        row(0, -1, 0);
        fresh("50;23;04!;11");
        due("none told", x.found(), 0);
        row(0, -1, 0);
        x.seen(0, 1, 2);
        x.seen(0, 2, 0);
        x.seen(3, 1, 1);
        due("all can be", x.found(), 0);
        row(0, -1, 0);
        x.seen(0, 1, 0);
        due("who lost threw it", x.found(), 8);
        row(1, 1, 1);
        x.seen(2, 0, 0);
        due("of equal ones the first", x.found(), 24);
        row(2, 0, 1);
        x.seen(1, 2, 2);
        due("drawn: both", x.found(), 56);
        row(3, 1, 2);
        x.seen(2, 3, 1);
        due("found", x.found(), 56 + 64);
        row(4, 1, 2);
        x.seen(3, 2, 0);
        due("found", x.found(), 56 + 64 + 128);
        row(5, 2, 3);
        x.law(3, 99);
        x.law(4, 50);
        due("by POWER now", x.found(), 2 + 4 + 8 + 16 + 64 + 128);
        row(6, 2, 3);
        x.law(3, 0);
        rule("i");
        due("by POWER now", x.found(), 1 + 2 + 4 + 8 + 32);
        row(5, 1, 3);
    }

    private static void prize() {
        promise = 38;
        fresh("");
        x.kings();
        due("no sides", x.prize(), -2);
        row(0);
        fresh("50;23;04;00");
        due("of equal ones the first", x.prize(), 0);
        row(0, 0);
        x.play(2, 3, 0);
        due("prize", x.prize(), 2);
        row(1, 1);
        x.play(1, 3, 0);
        due("of equal ones the first", x.prize(), 1);
        row(1, 2);
        x.play(2, 3, 0);
        due("prize", x.prize(), 2);
        row(2, 3);
    }

    private static void pays() {
        promise = 39;
        fresh("w1;0;2;4");
        due("no plan", x.pays(0, 1), -1);
        x.kings();
        plan("0-1;1-2");
        due("others", x.pays(3, 1), -1);
        due("others", x.pays(-1, 1), -1);
        due("others", x.pays(0, 51), -1);
        due("others", x.pays(0, -1), -1);
        row(1);
        due("none", x.pays(1, 0), 0);
        row(0, 0);
        x.play(0, 2, 3);
        due("as now", x.pays(0, 0), 0);
        row(1, 1);
        x.undo();
        x.rounds(1);
        // 1 2 4 then, as in the third run of ../shared/tests
        x.rounds(1);
        x.law(4, 50);
        x.seed(4);
        due("below 0", x.pays(2, 9), -6);
        row(9, 15);
        due("pays", x.pays(1, 2), 0);
        row(6, 6);
        due("nothing changes", x.seed(4), 4);
        due("nothing changes", x.of(2, 3), 0);
        due("nothing changes", x.count(3), 0);
        due("nothing changes", x.count(4), 2);
        skills(1, 3, 4);
        points(0, 3, 3);
        due("50", x.pays(0, 50) >= 0, true);
        // side 0 wins as long as side 1 has not come to what it has; drawn from then on
        fresh("w1;3;1");
        plan("0-1");
        due("more", x.pays(0, 4), 8 - 12);
        row(8, 12);
        x.ill(0, true);
        due("less", x.pays(0, 4), 12 - 8);
        row(12, 8);
        x.ill(0, false);
        // from the next round on
        plan("0-1;0!-1!");
        x.rounds(1);
        due("from the next round on", x.pays(0, 1), 0);
        row(4, 4);
        due("pays", x.pays(0, 4), -2);
        row(9, 11);
    }

    private static void laws() {
        promise = 40;
        fresh("w1;0;2;4");
        due("no plan", x.laws(1), -1);
        x.kings();
        plan("0-1;1-2");
        due("others", x.laws(51), -1);
        due("others", x.laws(-1), -1);
        row(1);
        due("none", x.laws(0), 0);
        row(6, 6, 6, 6);
        x.law(0, 3);
        x.law(4, 50);
        due("laws", x.laws(2), 0);
        row(8, 6, 8, 6);
        due("the law stays", x.law(0, 1), 3);
        skills(0, 2, 4);
        points(0, 0, 0);
        due("count(3)", x.count(3), 0);
        due("R stays", x.seed(1), 1);
        x.law(0, 1);
        due("laws", x.laws(1), 0);
        due("the law stays", x.law(0, 1), 1);
        plan("0!-2");
        x.law(1, 3);
        due("laws", x.laws(1), 0);
        row(9, 6, 9, 6);
        plan("0-2!");
        due("who loses teaches", x.laws(1), 1);
        row(6, 9, 9, 6);
        x.law(2, 0);
        due("less", x.laws(1), 1);
        row(6, 8, 8, 6);
        x.ill(2, true);
        due("less", x.laws(1), 0);
        row(6, 5, 5, 6);
    }

    private static void seed() {
        promise = 41;
        fresh("11;11");
        due("seed", x.seed(-7), 1);
        due("seed", x.seed(Integer.MIN_VALUE), -7);
        due("seed", x.seed(1), Integer.MIN_VALUE);
        x.play(0, 1, 0);
        due("without luck R stays", x.seed(1), 1);
        x.law(4, 1);
        x.play(0, 1, 0);
        due("a draw", x.seed(1), 1103527590);
    }

    private static void kept() {
        promise = 42;
        fresh("50;23;04!");
        due("others", x.keep(2), false);
        due("others", x.keep(-1), false);
        due("keep", x.keep(1), true);

        promise = 43;
        due("nothing kept", x.again(0), false);
        due("others", x.again(2), false);
        due("others", x.again(-1), false);
        x.law(1, 2);
        x.law(3, 1);
        plan("0-2;1-2;0-1!");
        x.rounds(1);
        x.play(0, 1, 2);
        x.seed(44);
        due("keep", x.keep(0), true);
        due("keep forgets nothing", x.count(4), 2);
        skills(5, 0, 4, 3, 0, 4);
        x.rounds(4);
        x.play(0, 1, 3);
        x.swap(0, 2);
        x.ill(0, true);
        x.ill(2, false);
        x.law(1, 1);
        x.law(0, 3);
        x.law(4, 9);
        x.seed(9);
        x.play(0, 1, 0);
        due("refused", x.again(2), false);
        due("a refused one forgets nothing", x.count(4), 1);
        due("again", x.again(0), true);
        due("count(4)", x.count(4), 0);
        skills(5, 0, 4, 3, 0, 4);
        points(4, 0, 1);
        due("raised", x.of(0, 2), 2);
        due("thrown", x.of(0, 4), 0);
        due("thrown", x.of(1, 4), 1);
        due("ill", x.of(0, 3), 0);
        due("ill", x.of(2, 3), 1);
        int[] law = {0, 2, 1, 1, 0};
        for (int what = 0; what < law.length; what++) {
            due("law", x.law(what, law[what]), law[what]);
        }
        due("R", x.seed(44), 44);
        due("where the plan is", x.count(3), 1);
        due("again", x.again(1), true);
        skills(5, 0, 2, 3, 0, 4);
        points(0, 0, 0);
        due("law", x.law(1, 1), 1);
        due("where the plan is", x.count(3), 0);
        due("again", x.again(0), true);
        x.rounds(1);
        x.keep(0);
        due("where the plan is", x.count(3), 2);
        plan("0-1;1-2");
        due("again", x.again(0), true);
        due("of another plan", x.count(3), 0);
        plan("0-1;1-2;0-2;0-1;1-2");
        due("again", x.again(0), true);
        due("of another plan", x.count(3), 2);
        plan("");
        due("again", x.again(0), true);
        due("without a plan", x.count(3), 0);
        x.circle();
        due("again", x.again(0), true);
        due("circle", x.count(3), 2);
        league("9");
        due("refused", x.again(0), true);
        league("44");
        due("sides were told", x.again(0), false);
        due("sides were told", x.again(1), false);
        x.keep(0);
        due("again", x.again(0), true);
        league("w2");
        due("arts were told", x.again(0), false);
        due("keep without sides", x.keep(1), true);
        due("again", x.again(1), true);
    }

    private static void counts() {
        promise = 44;
        fresh("w3;123;456;700;000");
        plan("0-1,2-3;1-2");
        x.rounds(1);
        x.seen(0, 1, 0);
        x.seen(0, 1, 1);
        x.seen(0, 1, 1);
        x.sign(0);
        x.end(3);
        int[] due = {4, 3, 2, 1, 2, 3, 2, 3, 3};
        for (int what = 0; what < due.length; what++) {
            due("count(" + what + ")", x.count(what), due[what]);
        }
        due("another", x.count(9), -1);
        due("another", x.count(-1), -1);

        promise = 45;
        row(0, 30);
        due("row(-1)", throwsRow(-1), true);
        due("row", throwsRow(Integer.MAX_VALUE), true);
        x.spread();
        row(1, 3);
        x.kings();
        row(8);
        x.play(0, 0, 0);
        row(8);
        fresh("");
        row();
    }
}
