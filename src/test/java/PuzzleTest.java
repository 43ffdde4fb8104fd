/** Promises 25 to 38: keeping dry, plots, papers, debts, moons looked for, the game by turns. */
public final class PuzzleTest {
    private static SandHold heights(int rows, int columns, String digits) {
        StringBuilder text = new StringBuilder("shore rows " + rows + " columns " + columns + ";");
        for (int c = 0; c < digits.length(); c++) {
            text.append("sand " + c + " " + digits.charAt(c) + ";");
        }
        return Check.with(text.toString());
    }

    private static void leastRaising() {
        SandHold x = Check.with("shore rows 3 columns 3;sand 4 6;sand 1 2;");
        Check.due("it is dry", x.least(4, 6), 0);
        Check.due("raised itself", x.least(4, 9), 3);
        Check.due("level 0", x.least(0, 0), 0);
        Check.due("least(9, 1)", x.least(9, 1), -2);
        Check.due("least(-1, 1)", x.least(-1, 1), -2);
        Check.due("the cell ahead of the level", x.least(9, 11), -2);
        Check.due("least(0, 11)", x.least(0, 11), -3);
        Check.due("least(0, -1)", x.least(0, -1), -3);
        Check.due("above 9", Check.with("shore rows 1 columns 1;sand 0 9;").least(0, 10), 1);
        Check.due("nothing is done", x.count(6), 16);
        // a gap of 1 in the wall by the sea is less than the cell itself
        SandHold gap = Check.with("shore rows 2 columns 3;sand 0 5;sand 1 4;sand 2 5;sand 3 0;sand 4 0;sand 5 0;");
        Check.due("the gap", gap.least(4, 5), 1);
        Check.due("wall and gap", gap.least(4, 6), 4);
        Check.due("the cell itself", gap.least(1, 5), 1);
        Check.due("behind the wall, seen from its end", gap.least(3, 6), 4);
        // two gaps of two ways round: the way in common is the least
        SandHold neck = Check.with("shore rows 4 columns 3;sand 0 0;sand 1 9;sand 2 0;sand 3 0;sand 4 0;sand 5 0;"
            + "sand 6 9;sand 7 3;sand 8 9;sand 9 9;sand 10 0;sand 11 9;");
        Check.due("the neck", neck.least(10, 5), 2);
        Check.due("the gaps, not the neck", neck.least(4, 1), 1);
        // flows that must turn back on one another
        SandHold turn = Check.with("shore rows 3 columns 4;sand 0 7;sand 1 9;sand 2 9;sand 3 7;sand 4 6;sand 5 5;sand 6 5;sand 7 6;"
            + "sand 8 9;sand 9 0;sand 10 0;sand 11 9;");
        Check.due("both sides", turn.least(9, 8), 2);
        Check.due("both sides", turn.least(10, 9), 4);
        Check.due("all of the wall", turn.least(9, 10), 8);
        Check.due("a flow taken back", heights(3, 3, "184676659").least(7, 8), 3);
        Check.due("a flow taken back", heights(3, 4, "799888879977").least(10, 9), 2);
        Check.due("a flow taken back", heights(5, 3, "783563438689678").least(7, 8), 3);
        Check.due("a flow taken back through a cell", heights(4, 4, "8976889548466684").least(13, 9), 3);
        Check.due("a flow taken back through a cell", heights(5, 5, "9683697373359469766473935").least(23, 8), 4);
        Check.due("a flow taken back through a cell", heights(5, 5, "8877797988988987887877799").least(22, 9), 2);
        Check.due("a flow taken back through a cell", heights(5, 4, "69566494654574967594").least(13, 8), 4);
        Check.due("a flow taken back, and taken again", heights(5, 4, "49945593055552922959").least(13, 8), 6);
        Check.due("a flow taken back, and taken again", heights(5, 4, "29289952379257986399").least(17, 10), 5);
        Check.due("a flow taken back, and taken again", heights(5, 5, "9993969598869795788423964").least(21, 10), 5);
        Check.due("a flow taken back through a cell, and another through it", heights(5, 5, "9690365816168878009961819").least(17, 10), 10);
        Check.due("a flow taken back through a cell, and another through it", heights(5, 5, "8893165732676634819940379").least(17, 9), 7);
        SandHold again = heights(4, 4, "9886799449847599");
        Check.due("a flow taken back", again.least(13, 10), 4);
        Check.due("no flow is left from the call ahead", again.least(13, 10), 4);
        Check.due("nor for another cell", again.least(12, 10), 3);
    }

    private static void safeLevels() {
        SandHold x = Check.with("shore rows 2 columns 3;sand 0 5;sand 1 4;sand 2 5;sand 3 0;sand 4 7;sand 5 9;");
        int[] safe = {5, 4, 5, 5, 7, 9};
        for (int c = 0; c < 6; c++) {
            Check.due("safe(" + c + ")", x.safe(c), safe[c]);
        }
        Check.due("safe(6)", x.safe(6), -2);
        Check.due("safe(-1)", x.safe(-1), -2);
        x.dig(1);
        Check.due("as high as now", x.safe(1), 3);
        Check.due("none is safe behind", x.safe(3), 5);
        Check.due("safe(0) of a new object", new SandHold().safe(0), 0);
        Check.due("1 high by the sea", heights(1, 2, "19").safe(0), 1);
    }

    private static void worstLevel() {
        Check.due("the first of like ones", Check.with("shore rows 5 columns 1;").worst(), 1);
        Check.due("where most are wetted", Check.with("shore rows 2 columns 3;sand 0 5;sand 1 5;sand 2 5;").worst(), 6);
        Check.due("wetted there, not in all", heights(1, 5, "01115").worst(), 2);
        Check.due("less later on", heights(1, 5, "00222").worst(), 3);
        Check.due("at 10", Check.with("shore rows 1 columns 1;sand 0 9;").worst(), 10);
        Check.due("a later one", Check.with("shore rows 1 columns 5;sand 0 1;sand 1 2;sand 2 2;sand 3 4;sand 4 4;").worst(), 3);
    }

    private static void plan(String plots, int worth, int set, int... order) {
        SandHold x = Check.with("shore rows 5 columns 1;" + plots);
        Check.due("worth of " + plots, x.plan(0), worth);
        Check.due("set of " + plots, x.plan(1), set);
        for (int i = 0; i < order.length; i++) {
            Check.due("order(" + i + ") of " + plots, x.order(i), order[i]);
        }
        Check.due("order behind " + plots, x.order(order.length), -1);
        Check.due("order far behind " + plots, x.order(1000), -1);
    }

    private static void plots() {
        // cell c is wet first in MINUTE c + 1, so a plot there must be done when c are gone
        plan("", 0, 0);
        plan("plot 0 minutes 1 worth 9;", 0, 0);
        plan("plot 1 minutes 1 worth 9;", 9, 1, 0);
        plan("plot 1 minutes 2 worth 9;", 0, 0);
        plan("plot 2 minutes 1 worth 5;plot 1 minutes 1 worth 5;", 10, 3, 1, 0);
        plan("plot 4 minutes 1 worth 1;plot 4 minutes 1 worth 1;plot 4 minutes 2 worth 1;", 3, 7, 0, 1, 2);
        plan("plot 4 minutes 2 worth 1;plot 2 minutes 2 worth 1;", 2, 3, 1, 0);
        plan("plot 2 minutes 2 worth 3;plot 2 minutes 2 worth 3;", 3, 1, 0);
        plan("plot 2 minutes 2 worth 3;plot 2 minutes 1 worth 1;plot 2 minutes 1 worth 2;", 3, 1, 0);
        plan("plot 2 minutes 2 worth 3;plot 2 minutes 1 worth 2;plot 2 minutes 1 worth 2;", 4, 6, 1, 2);
        plan("plot 3 minutes 1 worth 0;plot 3 minutes 1 worth 1;", 1, 2, 1);
        plan("tide:0;" + "plot 0 minutes 9 worth 9;".repeat(6), 54, 63, 0, 1, 2, 3, 4, 5);
        plan("tide:if minute=54 then 1 else 0 end;" + "plot 0 minutes 9 worth 9;".repeat(6), 45, 31, 0, 1, 2, 3, 4);
        plan("tide:if minute=55 then 1 else 0 end;" + "plot 0 minutes 9 worth 9;".repeat(6), 54, 63, 0, 1, 2, 3, 4, 5);
        plan("house 3 owner 0;plot 3 minutes 1 worth 2;", 2, 1, 0);
        SandHold x = Check.with("shore rows 5 columns 1;plot 4 minutes 3 worth 4;plot 3 minutes 1 worth 4;");
        Check.due("from now on", x.plan(0), 8);
        Check.due("order(0)", x.order(0), 0 + 1);
        x.minutes(2);
        Check.due("two gone", x.plan(0), 4);
        Check.due("two gone", x.plan(1), 2);
        SandHold first = Check.with("shore rows 5 columns 1;plot 1 minutes 1 worth 1;plot 0 minutes 1 worth 1;");
        Check.due("order() asked first", first.order(0), 0);
        Check.due("order() asked first", first.order(1), -1);
        plan("plot 4 minutes 1 worth 1;plot 3 minutes 2 worth 1;plot 3 minutes 1 worth 1;", 3, 7, 1, 2, 0);
        plan("sand 4 5;plot 4 minutes 2 worth 1;plot 3 minutes 1 worth 1;plot 4 minutes 1 worth 1;", 3, 7, 0, 1, 2);
        Check.due("plan(2)", x.plan(2), -2);
        Check.due("plan(-1)", x.plan(-1), -2);
        Check.due("order(-1)", x.order(-1), -3);
        Check.due("nothing is done", x.count(5), 2);
        // raising a plot's cell gives it time
        x.raise(4);
        Check.due("raised", x.plan(0), 4);
        Check.due("the least set of like ones", x.plan(1), 1);
        x.raise(4);
        Check.due("raised again", x.plan(0), 8);
    }

    private static void papers() {
        SandHold x = Check.with("shore rows 4 columns 4;paper 0 5;paper 5 10;paper 10 15;paper 3 3;paper 12 3;");
        Check.due("over 0", x.papers(0), 1 | 16);
        Check.due("over 5", x.papers(5), 3 | 16);
        Check.due("over 10", x.papers(10), 6 | 16);
        Check.due("over 3", x.papers(3), 8 | 16);
        Check.due("over 12", x.papers(12), 16);
        Check.due("papers(16)", x.papers(16), -2);
        Check.due("papers(-1)", x.papers(-1), -2);
        Check.due("how many", x.count(8), 5);
        Check.due("three colours", x.colours(0), 3);
        int[] colour = {0, 1, 0, 0, 2};
        for (int p = 0; p < 5; p++) {
            Check.due("colour of " + p, x.colours(10 + p), colour[p]);
        }
        Check.due("colours(15)", x.colours(15), -2);
        Check.due("colours(1)", x.colours(1), -2);
        Check.due("colours(9)", x.colours(9), -2);
        Check.due("colours(-1)", x.colours(-1), -2);
        Check.due("three in a clique", x.clique(0), 3);
        Check.due("the least set", x.clique(1), 1 | 2 | 16);
        Check.due("clique(2)", x.clique(2), -2);
        Check.due("clique(-1)", x.clique(-1), -2);
        SandHold apart = Check.with("shore rows 1 columns 3;paper 1 1;paper 0 0;paper 2 2;");
        Check.due("one of each: the least set", apart.clique(1), 1);
        Check.due("one colour", apart.colours(0), 1);
        Check.due("asked first", Check.with("shore rows 1 columns 1;paper 0 0;paper 0 0;").colours(11), 1);
        Check.due("asked first", Check.with("shore rows 1 columns 2;paper 0 0;paper 1 1;").colours(11), 0);
        Check.shore(apart, "shore rows 1 columns 3;paper 1 2;");
        Check.due("papers of the text ahead are gone", apart.papers(0), 0);
        Check.due("and one is left", apart.clique(1), 1);
        Check.due("asked of another text", apart.colours(10), 0);
        Check.shore(apart, "shore rows 1 columns 3;");
        Check.due("none", apart.papers(1), 0);
        SandHold none = Check.with("shore rows 1 columns 1;");
        Check.due("no papers", none.colours(0), 0);
        Check.due("no paper 0", none.colours(10), -2);
        Check.due("no clique", none.clique(0), 0);
        Check.due("no clique", none.clique(1), 0);
        SandHold all = Check.with("shore rows 1 columns 1;" + "paper 0 0;".repeat(6));
        Check.due("six colours", all.colours(0), 6);
        Check.due("the sixth", all.colours(15), 5);
        Check.due("colours(16)", all.colours(16), -2);
        Check.due("six overlap", all.clique(0), 6);
        Check.due("all", all.clique(1), 63);
        // the first colours are given back where a greedy choice would need one more
        SandHold path = Check.with("shore rows 1 columns 5;paper 0 1;paper 3 4;paper 1 2;paper 2 3;");
        Check.due("two do", path.colours(0), 2);
        int[] two = {0, 1, 1, 0};
        for (int p = 0; p < 4; p++) {
            Check.due("path's colour of " + p, path.colours(10 + p), two[p]);
        }
        Check.due("the least pair", path.clique(1), 5);
        // corners in any order, and papers are as the text tells, not as deeds do
        SandHold corner = Check.with("shore rows 3 columns 3;paper 2 6;paper 8 4;paper 1 1;");
        Check.due("all nine", corner.papers(6), 1);
        Check.due("four", corner.papers(5), 3);
        Check.due("one", corner.papers(1), 5);
        Check.due("papers meet at an edge only: none in common",
            Check.with("shore rows 1 columns 2;paper 0 0;paper 1 1;").colours(0), 1);
    }

    private static void debts(String owes, int payments, int... balances) {
        SandHold x = Check.with("shore rows 1 columns 1;" + owes);
        Check.due("payments of " + owes, x.payments(), payments);
        for (int o = 0; o < balances.length; o++) {
            Check.due("balance(" + o + ") of " + owes, x.balance(o), balances[o]);
        }
        Check.due("balance(5)", x.balance(5), -99000002);
        Check.due("balance(-1)", x.balance(-1), -99000002);
    }

    private static void debtsAreSettled() {
        debts("", 0, 0, 0, 0, 0, 0);
        debts("owes 0 1 0;", 0, 0, 0, 0, 0, 0);
        debts("owes 0 1 5;", 1, -5, 5, 0, 0, 0);
        debts("owes 0 1 5;owes 1 0 5;", 0, 0, 0, 0, 0, 0);
        debts("owes 0 1 5;owes 1 2 5;owes 3 4 7;", 2, -5, 0, 5, -7, 7);
        debts("owes 0 1 1;owes 0 2 1;owes 0 3 1;owes 0 4 1;", 4, -4, 1, 1, 1, 1);
        debts("owes 0 1 3;owes 2 1 2;owes 3 4 4;", 3, -3, 5, -2, -4, 4);
        debts("owes 0 2 4;owes 0 3 3;owes 1 3 3;owes 1 4 1;", 3, -7, -4, 4, 6, 1);
        debts("owes 0 2 3;owes 1 3 4;owes 1 4 1;", 3, -3, -5, 3, 4, 1);
        debts("owes 4 0 99;owes 4 0 99;owes 4 0 99;owes 4 0 99;owes 4 0 99;owes 4 0 99;owes 4 0 99;owes 4 0 99;", 1, 792, 0, 0, 0, -792);
        debts("owes 0 1 1;owes 1 2 1;owes 2 3 1;owes 3 4 1;owes 4 0 1;", 0, 0, 0, 0, 0, 0);
        debts("owes 0 1 6;owes 0 2 4;owes 3 2 2;owes 4 2 3;", 4, -10, 6, 9, -2, -3);
    }

    private static void moons() {
        SandHold x = Check.with("shore rows 1 columns 1;tide:if minute<2 then 3 else if minute<4 then moon-5 else minute-moon end end;moon 9;");
        Check.due("MISSING", x.moons(0), -6);
        Check.due("no such TRAY", x.moons(4), -2);
        Check.due("no such TRAY", x.moons(-1), -2);
        Check.due("MISSING", x.look(0), -6);
        Check.due("no such TRAY", x.look(4), -2);
        Check.tray(x, 0);
        Check.due("no numbers", x.moons(0), -4);
        Check.due("no numbers", x.look(0), -4);
        Check.tray(x, 0, 300, 301, 300, 301, 300, 301, 300, 301, -1);
        Check.due("nine numbers, ahead of a wrong one", x.moons(0), -4);
        Check.tray(x, 0, 300, 301, 300, 301, 300, 301, 300, 301);
        Check.due("eight", x.moons(0), 1023);
        long[] wrong = {-1, -100, 1100, 1101, Long.MIN_VALUE, Long.MAX_VALUE, (1L << 32) + 300};
        for (long v : wrong) {
            Check.tray(x, 1, v, 300);
            Check.due("no LEVEL and MINUTES at first: " + v, x.moons(1), -3);
            Check.tray(x, 1, 300, v);
            Check.due("no LEVEL and MINUTES: " + v, x.moons(1), -3);
            Check.due("no LEVEL and MINUTES: " + v, x.look(1), -3);
        }
        Check.tray(x, 1, 2);
        Check.due("0 in two MINUTES: moons 0 to 5", x.moons(1), 63);
        Check.tray(x, 1, 402);
        Check.due("4 in two MINUTES: moon 9", x.moons(1), 512);
        Check.tray(x, 1, 302);
        Check.due("3 in two: moon 8", x.moons(1), 256);
        Check.tray(x, 1, 302, 2);
        Check.due("none", x.moons(1), 0);
        Check.due("nothing to look for", x.look(1), -1);
        Check.tray(x, 1, 1099);
        Check.due("10 in 99", x.moons(1), 1023);
        Check.due("the MOON now is no matter", x.count(4), 9);
        x.minutes(2);
        Check.tray(x, 1, 400);
        Check.due("from now on, 0: now", x.moons(1), 512);
        Check.due("as seen: one left", x.look(1), 0);
    }

    private static void looks() {
        SandHold x = Check.with("shore rows 1 columns 1;tide:if minute<2 then 3 else if minute<4 then moon-5 else minute-moon end end;");
        Check.tray(x, 0, 300);
        // in MINUTE 4: 4 - moon, six of them 0; in 9: 9 down to 0, all apart
        Check.due("all apart in 9", x.look(0), 9);
        x.minutes(1);
        Check.tray(x, 0, 300);
        Check.due("from now on", x.look(0), 8);
        Check.tray(x, 0, 1);
        Check.due("moons 0 to 5 are apart in 5, four MINUTES from now on", x.look(0), 4);
        Check.tray(x, 0, 201);
        Check.due("one moon: at once", x.look(0), 0);
        SandHold v = Check.with("shore rows 1 columns 1;tide:if minute=3 and moon=0 then 1 else if minute=5 and moon<5 then 2 else 0 end end;");
        Check.tray(v, 0, 0);
        Check.due("halves in 5, not one in 3", v.look(0), 5);
        SandHold q = Check.with("shore rows 1 columns 1;tide:if minute=7 and moon=0 then 1 else 0 end;");
        Check.tray(q, 0, 0);
        Check.due("moon 0 is one of these", q.look(0), 7);
        SandHold y = Check.with("shore rows 1 columns 1;tide:5;");
        Check.tray(y, 0, 599);
        Check.due("all like: the first", y.look(0), 0);
        SandHold z = Check.with("shore rows 1 columns 1;tide:if minute=99 then moon else if minute=50 and moon>4 then 1 else 0 end end;");
        Check.tray(z, 0, 0);
        Check.due("in 99", z.look(0), 99);
        z.minutes(1);
        Check.tray(z, 0, 0);
        Check.due("in 98", z.look(0), 98);
        z.minutes(99);
        Check.due("gone", z.look(0), 0);
        SandHold w = Check.with("shore rows 1 columns 1;tide:if minute=100 then moon else if minute=50 and moon>4 then 1 else 0 end end;");
        Check.tray(w, 0, 0);
        Check.due("100 is too far: halves in 50", w.look(0), 50);
    }

    private static void puts(String text, int wins, int... puts) {
        SandHold x = Check.with(text);
        for (int row = 0; row < puts.length; row++) {
            Check.due("puts(" + row + ") of " + text, x.puts(row), puts[row]);
        }
        Check.due("wins of " + text, x.wins(), wins);
        Check.due("puts behind the rows", x.puts(puts.length), -2);
        Check.due("puts(-1)", x.puts(-1), -2);
    }

    private static void byTurns() {
        puts("shore rows 1 columns 1;", 1, 0);
        puts("shore rows 1 columns 2;", 1, 0);
        puts("shore rows 1 columns 3;", 1, 1);
        puts("shore rows 1 columns 4;", 0, -1);
        puts("shore rows 1 columns 5;", 1, 2);
        puts("shore rows 2 columns 5;", 0, 2, 7);
        puts("shore rows 3 columns 3;", 1, 1, 4, 7);
        puts("shore rows 5 columns 4;", 0, -1, -1, -1, -1, -1);
        puts("shore rows 1 columns 5;house 0 owner 0;", 1, 3);
        puts("shore rows 1 columns 5;house 4 owner 0;", 1, 1);
        puts("shore rows 1 columns 5;house 1 owner 0;", 1, 3);
        puts("shore rows 1 columns 5;house 2 owner 0;", 0, -1);
        puts("shore rows 2 columns 3;house 1 owner 0;house 3 owner 0;", 1, -1, 5);
        puts("shore rows 2 columns 3;house 2 owner 0;house 3 owner 0;", 0, 0, 5);
        puts("shore rows 2 columns 1;house 1 owner 0;", 1, 0, -1);
        // 5 alone is worth 3, 3 alone 2, 2 or 1 alone 1: together as heaps in nim
        puts("shore rows 3 columns 5;house 5 owner 0;house 10 owner 0;house 13 owner 0;", 1, 2, 8, -1);
        puts("shore rows 2 columns 5;house 5 owner 0;", 1, 2, 8);
        puts("shore rows 3 columns 5;house 5 owner 0;house 11 owner 0;", 0, 2, 8, 13);
        puts("shore rows 2 columns 3;house 3 owner 0;", 1, 1, 5);
        SandHold x = Check.with("shore rows 1 columns 3;house 1 owner 0;tide:9;");
        Check.due("no room", x.puts(0), -1);
        x.minutes(1);
        Check.due("a fallen one is no house that stands", x.puts(0), 1);
        Check.due("so the first wins", x.wins(), 1);
        x.build(0, 1);
        Check.due("beside a new one", x.puts(0), 2);
    }

    public static void main(String[] args) {
        leastRaising();
        safeLevels();
        worstLevel();
        plots();
        papers();
        debtsAreSettled();
        moons();
        looks();
        byTurns();
        Check.end("PuzzleTest");
    }
}
