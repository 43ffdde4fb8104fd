/** Dry, plots, papers, debts, looked, by turns, promises 25 to 38: each sentence that names a boundary case, by a test of its own. */
public final class EdgePuzzleTest {
    private static final int[] WILD = {Integer.MIN_VALUE, -1000, -2, -1, 1000, Integer.MAX_VALUE};

    private static SandHold heights(int rows, int columns, String digits) {
        StringBuilder text = new StringBuilder("shore rows " + rows + " columns " + columns + ";");
        for (int c = 0; c < digits.length(); c++) {
            text.append("sand " + c + " " + digits.charAt(c) + ";");
        }
        return Check.with(text.toString());
    }

    private static void dryIsNotWet() {
        Check.says("DRY at a LEVEL: a CELL that isn't WET at it, all being as HIGH as now.");
        SandHold x = heights(2, 3, "535007");
        for (int c = 0; c < 6; c++) {
            for (int level = 0; level <= 10; level++) {
                boolean dry = (x.wet(level) >> c & 1) == 0;
                Check.dueTrue("least(" + c + ", " + level + ") is 0 if it is DRY alone", x.least(c, level) == 0 == dry);
                Check.dueTrue("safe(" + c + ") and " + level, level <= x.safe(c) == dry);
            }
        }
    }

    private static void dryAtALevel() {
        Check.says("KEEPING a CELL DRY at a LEVEL: CELLS are RAISED (it too, and above 9, if it must be) so that it is DRY: the least RAISING in all (0, if it is).");
        for (int high = 0; high <= 9; high++) {
            SandHold x = heights(1, 1, "" + high);
            for (int level = 0; level <= 10; level++) {
                Check.due(high + " at " + level, x.least(0, level), Math.max(0, level - high));
            }
        }
        Check.due("it is dry behind a wall", heights(2, 3, "555050").least(4, 5), 0);
        Check.due("it too", heights(2, 3, "000080").least(4, 9), 1);
        Check.due("above 9", heights(2, 3, "000090").least(4, 10), 1);
        Check.due("a wall above 9", heights(2, 3, "999000").least(4, 10), 3);
        Check.due("a wall above 9", heights(2, 1, "90").least(1, 10), 1);
        Check.due("the wall at the side", heights(2, 5, "9999900000").least(9, 10), 5);
        Check.due("a wall of its own", heights(2, 5, "9999900980").least(9, 10), 3);
        Check.due("all of 25 cells", heights(5, 5, "0".repeat(25)).least(24, 10), 10);
        Check.due("all of 25 cells", heights(5, 5, "9".repeat(25)).least(24, 10), 1);
        Check.due("corner behind two", heights(3, 3, "000008080").least(8, 9), 2);
    }

    private static void leastRefused() {
        Check.says("KEEPING a CELL DRY at a LEVEL (0 to 10): the least RAISING. -2; -3.");
        SandHold x = heights(2, 2, "0000");
        Check.due("level 0", x.least(0, 0), 0);
        Check.due("level 10", x.least(3, 10), 10);
        for (int v : WILD) {
            Check.due("CELL " + v, x.least(v, 0), -2);
            Check.due("LEVEL " + v, x.least(0, v), -3);
            Check.due("both " + v, x.least(v, v), -2);
        }
        Check.due("CELL 4", x.least(4, 10), -2);
        Check.due("LEVEL 11", x.least(3, 11), -3);
        Check.due("CELL 4 and LEVEL 11", x.least(4, 11), -2);
        Check.due("nothing is done", x.count(6), 0);
    }

    private static void safeLevel() {
        Check.says("The greatest LEVEL at which a CELL is DRY, all being as HIGH as now. -2.");
        for (int high = 0; high <= 9; high++) {
            Check.due("by the sea, " + high, heights(1, 1, "" + high).safe(0), high);
            Check.due("0 behind a wall of " + high, heights(2, 1, high + "0").safe(1), high);
            Check.due("behind the sea, " + high, heights(2, 1, "0" + high).safe(1), high);
        }
        SandHold x = heights(2, 2, "0000");
        for (int v : WILD) {
            Check.due("safe(" + v + ")", x.safe(v), -2);
        }
        Check.due("safe(4)", x.safe(4), -2);
        x.raise(3);
        Check.due("as HIGH as now", x.safe(3), 1);
    }

    private static void worstOfTen() {
        Check.says("The LEVEL at which most CELLS less are DRY than at the one 1 less (1 to 10), the first.");
        for (int high = 0; high <= 9; high++) {
            Check.due("all are " + high, heights(2, 2, ("" + high).repeat(4)).worst(), high + 1);
        }
        Check.due("one each: the first", heights(1, 5, "98765").worst(), 6);
        Check.due("two each: the first", heights(1, 4, "9922").worst(), 3);
        Check.due("three later", heights(1, 5, "99922").worst(), 10);
        Check.due("a hollow behind a wall falls with it", heights(3, 1, "700").worst(), 8);
        Check.due("a new object", new SandHold().worst(), 1);
        Check.due("1 is one of them", heights(1, 5, "00001").worst(), 1);
        Check.due("10 is one of them", heights(1, 5, "88999").worst(), 10);
        Check.due("one, two, three", heights(2, 3, "011222").worst(), 3);
    }

    private static void plan(String plots, int worth, int set, int... order) {
        SandHold x = Check.with("shore rows 5 columns 1;" + plots);
        Check.due("worth of " + plots, x.plan(0), worth);
        Check.due("set of " + plots, x.plan(1), set);
        for (int i = 0; i < order.length; i++) {
            Check.due("order(" + i + ") of " + plots, x.order(i), order[i]);
        }
        Check.due("order behind " + plots, x.order(order.length), -1);
    }

    private static void doneAheadOfTheSea() {
        Check.says("(it is done when so many MINUTES are gone; in none of these the CELL may have been WET; 60 are gone at most): the most worth, of like ones the least set as bits.");
        // by the plain tide cell c of one column is WET first in MINUTE c + 1
        for (int c = 0; c < 5; c++) {
            for (int takes = 1; takes <= 6; takes++) {
                boolean can = takes <= c;
                plan("plot " + c + " minutes " + takes + " worth 3;", can ? 3 : 0, can ? 1 : 0, can ? new int[] {0} : new int[0]);
            }
        }
        plan("", 0, 0);
        plan("tide:0;" + "plot 0 minutes 9 worth 9;".repeat(6), 54, 63, 0, 1, 2, 3, 4, 5);
        plan("tide:minute-54;" + "plot 0 minutes 9 worth 9;".repeat(6), 54, 63, 0, 1, 2, 3, 4, 5);
        plan("tide:minute-53;" + "plot 0 minutes 9 worth 9;".repeat(6), 45, 31, 0, 1, 2, 3, 4);
        plan("tide:0;" + "plot 0 minutes 1 worth 0;".repeat(6), 0, 0);
        plan("plot 4 minutes 1 worth 0;plot 4 minutes 1 worth 9;plot 4 minutes 1 worth 0;", 9, 2, 1);
    }

    private static void likePlans() {
        Check.says("the most worth, of like ones the least set as bits.");
        plan("plot 4 minutes 4 worth 4;plot 4 minutes 2 worth 2;plot 4 minutes 2 worth 2;", 4, 1, 0);
        plan("plot 4 minutes 2 worth 2;plot 4 minutes 2 worth 2;plot 4 minutes 4 worth 4;", 4, 3, 0, 1);
        plan("plot 4 minutes 4 worth 4;plot 4 minutes 4 worth 4;plot 4 minutes 4 worth 4;", 4, 1, 0);
        plan("plot 4 minutes 4 worth 3;plot 4 minutes 4 worth 4;plot 4 minutes 4 worth 4;", 4, 2, 1);
        plan("plot 4 minutes 3 worth 5;plot 4 minutes 1 worth 1;plot 4 minutes 1 worth 1;plot 4 minutes 3 worth 5;", 6, 3, 0, 1);
    }

    private static void oneBehindTheOther() {
        Check.says("BUILDING PLOTS: one behind the other from now on, each as many MINUTES as it takes, so that each that is built is done ahead of the first MINUTE in which its CELL is WET, GOING ON");
        plan("plot 2 minutes 1 worth 5;plot 1 minutes 1 worth 5;", 10, 3, 1, 0);
        plan("plot 2 minutes 2 worth 5;plot 1 minutes 1 worth 5;", 5, 1, 0);
        plan("plot 3 minutes 2 worth 5;plot 1 minutes 1 worth 5;", 10, 3, 1, 0);
        plan("plot 1 minutes 1 worth 1;plot 2 minutes 1 worth 1;plot 3 minutes 1 worth 1;plot 4 minutes 1 worth 1;", 4, 15, 0, 1, 2, 3);
        plan("plot 4 minutes 1 worth 1;plot 3 minutes 1 worth 1;plot 2 minutes 1 worth 1;plot 1 minutes 1 worth 1;", 4, 15, 3, 2, 1, 0);
        SandHold x = Check.with("shore rows 5 columns 1;plot 4 minutes 4 worth 1;");
        Check.due("now", x.plan(0), 1);
        x.minutes(1);
        Check.due("from now on", x.plan(0), 0);
        x.raise(4);
        Check.due("as HIGH as now", x.plan(0), 1);
        Check.due("nothing is done", x.count(5), 1);
        // the plain tide sinks behind MINUTE 9, and comes to the cell again
        x.minutes(13);
        Check.due("when the sea has gone", x.plan(0), 1);
    }

    private static void planWhat() {
        Check.says("BUILDING PLOTS, what 0: the worth, 1: which, as bits. -2: what.");
        SandHold x = Check.with("shore rows 5 columns 1;plot 4 minutes 1 worth 7;");
        Check.due("the worth", x.plan(0), 7);
        Check.due("which", x.plan(1), 1);
        Check.due("plan(2)", x.plan(2), -2);
        for (int v : WILD) {
            Check.due("plan(" + v + ")", x.plan(v), -2);
        }
        Check.due("of none", new SandHold().plan(2), -2);
    }

    private static void orderOfPlots() {
        Check.says("The i-th PLOT of these to be built: in the first order in which it can be (PLOT by PLOT, least first). NONE: not so many; -3: i is below 0.");
        SandHold x = Check.with("shore rows 5 columns 1;" + "plot 4 minutes 1 worth 1;".repeat(3) + "plot 1 minutes 1 worth 1;");
        int[] order = {3, 0, 1, 2};
        for (int i = 0; i < 4; i++) {
            Check.due("order(" + i + ")", x.order(i), order[i]);
        }
        Check.due("not so many", x.order(4), -1);
        Check.due("not so many", x.order(6), -1);
        Check.due("not so many", x.order(Integer.MAX_VALUE), -1);
        Check.due("below 0", x.order(-1), -3);
        Check.due("far below 0", x.order(Integer.MIN_VALUE), -3);
        Check.due("of none", new SandHold().order(0), -1);
        Check.due("-3 ahead of NONE", new SandHold().order(-1), -3);
        // 0 first would leave 1 no time, though 0 has the later MINUTE to wait for
        plan("plot 4 minutes 2 worth 1;plot 3 minutes 2 worth 1;", 2, 3, 1, 0);
        plan("sand 4 5;plot 4 minutes 2 worth 1;plot 4 minutes 1 worth 1;plot 3 minutes 1 worth 1;", 3, 7, 0, 2, 1);
    }

    private static void coloured(String papers, int fewest, int... colours) {
        SandHold x = Check.with("shore rows 1 columns 5;" + papers);
        Check.due("colours of " + papers, x.colours(0), fewest);
        for (int p = 0; p < colours.length; p++) {
            Check.due("colour " + p + " of " + papers, x.colours(10 + p), colours[p]);
        }
        Check.due("no more of " + papers, x.colours(10 + colours.length), -2);
    }

    private static void fewestColours() {
        Check.says("COLOURS of PAPERS: no two that have a CELL in common have one: the fewest, of like ones the first (PAPER by PAPER its COLOUR, 0 first).");
        coloured("", 0);
        coloured("paper 0 4;", 1, 0);
        coloured("paper 0 1;paper 2 3;", 1, 0, 0);
        coloured("paper 0 2;paper 2 3;", 2, 0, 1);
        coloured("paper 0 4;".repeat(6), 6, 0, 1, 2, 3, 4, 5);
        coloured("paper 0 0;paper 0 0;paper 1 1;paper 1 1;paper 2 2;paper 2 2;", 2, 0, 1, 0, 1, 0, 1);
        // taking the least for each would give the first two one colour, and need a third
        coloured("paper 0 1;paper 3 4;paper 1 2;paper 2 3;", 2, 0, 1, 1, 0);
        coloured("paper 0 1;paper 1 2;paper 0 2;", 3, 0, 1, 2);
    }

    private static void coloursWhat() {
        Check.says("COLOURS, what 0: how many, 10 + p: the COLOUR of PAPER p. -2: what (10 and a PAPER).");
        SandHold x = Check.with("shore rows 1 columns 5;" + "paper 0 4;".repeat(6));
        Check.due("the first", x.colours(10), 0);
        Check.due("the last", x.colours(15), 5);
        for (int what : new int[] {1, 2, 5, 9, 16, 17}) {
            Check.due("colours(" + what + ")", x.colours(what), -2);
        }
        for (int v : WILD) {
            Check.due("colours(" + v + ")", x.colours(v), -2);
        }
        Check.due("no PAPER", new SandHold().colours(10), -2);
        Check.due("one PAPER: no second", Check.with("shore rows 1 columns 1;paper 0 0;").colours(11), -2);
    }

    private static void mostInAClique() {
        Check.says("A CLIQUE: PAPERS each two of which have a CELL in common: the most, of like ones the least set as bits.");
        Check.due("none", new SandHold().clique(0), 0);
        Check.due("none", new SandHold().clique(1), 0);
        clique("paper 3 3;", 1, 1);
        clique("paper 3 3;paper 4 4;paper 2 2;", 1, 1);
        clique("paper 0 1;paper 3 4;paper 1 3;", 2, 5);
        clique("paper 0 0;paper 3 4;paper 1 3;", 2, 6);
        clique("paper 0 4;".repeat(6), 6, 63);
        // each two overlap, though no CELL is under all three
        SandHold x = Check.with("shore rows 2 columns 2;paper 0 1;paper 1 3;paper 2 3;paper 0 2;");
        Check.due("two of a ring", x.clique(0), 2);
        Check.due("the least of four", x.clique(1), 3);
    }

    private static void clique(String papers, int most, int set) {
        SandHold x = Check.with("shore rows 1 columns 5;" + papers);
        Check.due("how many of " + papers, x.clique(0), most);
        Check.due("which of " + papers, x.clique(1), set);
    }

    private static void cliqueWhat() {
        Check.says("A CLIQUE, what 0: how many, 1: which, as bits. -2: what.");
        SandHold x = Check.with("shore rows 1 columns 5;paper 0 1;paper 1 2;paper 3 4;");
        Check.due("how many", x.clique(0), 2);
        Check.due("which", x.clique(1), 3);
        Check.due("clique(2)", x.clique(2), -2);
        for (int v : WILD) {
            Check.due("clique(" + v + ")", x.clique(v), -2);
        }
        Check.due("of none", new SandHold().clique(2), -2);
    }

    private static void papersOver() {
        Check.says("PAPERS over a CELL, as bits. -2.");
        SandHold x = Check.with("shore rows 5 columns 5;" + "paper 0 0;".repeat(5) + "paper 24 24;");
        Check.due("five", x.papers(0), 31);
        Check.due("the sixth", x.papers(24), 32);
        Check.due("none", x.papers(1), 0);
        Check.due("papers(25)", x.papers(25), -2);
        for (int v : WILD) {
            Check.due("papers(" + v + ")", x.papers(v), -2);
        }
        Check.due("none told", new SandHold().papers(0), 0);
    }

    private static void balances() {
        Check.says("The BALANCE of an OWNER (0 to 4). -99000002.");
        SandHold x = Check.with("shore rows 1 columns 1;" + "owes 0 4 99;".repeat(8));
        Check.due("to pay", x.balance(0), -792);
        Check.due("to get", x.balance(4), 792);
        Check.due("neither", x.balance(2), 0);
        Check.due("balance(5)", x.balance(5), -99000002);
        for (int v : WILD) {
            Check.due("balance(" + v + ")", x.balance(v), -99000002);
        }
        SandHold y = Check.with("shore rows 1 columns 1;owes 3 1 1;");
        Check.due("-1 is a BALANCE", y.balance(3), -1);
        Check.due("none told", new SandHold().balance(0), 0);
        Check.says("BALANCES: what one has to get less what it has to pay.");
        SandHold z = Check.with("shore rows 1 columns 1;owes 0 1 5;owes 1 0 3;owes 1 2 2;");
        Check.due("get 3, pay 5", z.balance(0), -2);
        Check.due("get 5, pay 5", z.balance(1), 0);
        Check.due("get 2", z.balance(2), 2);
    }

    private static void payments(String owes, int fewest) {
        Check.due("payments of " + owes, Check.with("shore rows 1 columns 1;" + owes).payments(), fewest);
    }

    private static void fewestPayments() {
        Check.says("SETTLING: payments, each from one to another, behind which all BALANCES are 0: the fewest.");
        Check.due("none told", new SandHold().payments(), 0);
        payments("owes 0 1 0;", 0);
        payments("owes 0 1 99;owes 1 0 99;", 0);
        payments("owes 0 1 1;owes 1 2 1;owes 2 3 1;owes 3 4 1;", 1);
        payments("owes 0 1 1;owes 2 3 2;", 2);
        payments("owes 0 1 1;owes 0 2 1;", 2);
        payments("owes 0 1 1;owes 0 2 1;owes 0 3 1;owes 0 4 1;", 4);
        payments("owes 0 1 1;owes 0 2 2;owes 3 4 5;", 3);
        payments("owes 0 3 2;owes 1 3 2;owes 1 4 1;owes 2 4 5;", 4);
        payments("owes 0 3 2;owes 1 4 3;owes 2 4 4;", 3);
        payments("owes 0 1 3;owes 2 3 1;owes 2 4 2;", 3);
        // two debts of 1: none is left if one goes back, one if both are of the same two or what comes to one goes on
        for (int a = 0; a < 5; a++) {
            for (int b = 0; b < 5; b++) {
                for (int c = 0; c < 5; c++) {
                    for (int d = 0; d < 5; d++) {
                        if (a != b && c != d) {
                            boolean back = a == d && b == c;
                            boolean one = a == c && b == d || a == d || b == c;
                            payments("owes " + a + " " + b + " 1;owes " + c + " " + d + " 1;", back ? 0 : one ? 1 : 2);
                        }
                    }
                }
            }
        }
    }

    private static void paymentsOfADebtor() {
        Check.says("SETTLING: how many payments.");
        payments("", 0);
        payments("owes 4 3 99;", 1);
        payments("owes 0 1 99;owes 1 2 99;owes 2 3 99;owes 3 4 99;owes 4 0 99;", 0);
        payments("owes 0 1 7;owes 2 1 7;owes 3 1 7;owes 4 1 7;", 4);
        SandHold x = Check.with("shore rows 1 columns 1;owes 0 1 7;");
        x.minutes(9);
        Check.due("deeds are no matter", x.payments(), 1);
    }

    private static void moonsAsBits() {
        Check.says("LOOKED: MOONS, as bits.");
        for (int moon = 0; moon < 10; moon++) {
            SandHold x = Check.with("shore rows 1 columns 1;tide:if moon=" + moon + " then 2 else 1 end;");
            moons(x, 1 << moon, 200);
            moons(x, 1023 & ~(1 << moon), 100);
            moons(x, 0, 300);
        }
    }

    private static void lookedNumbers() {
        Check.says("-2: the TRAY; -6; -4: not 1 to 8 numbers; -3: one is no LEVEL (0 to 10) and 0 to 99 MINUTES.");
        SandHold x = Check.with("shore rows 1 columns 1;tide:5;");
        for (int v : WILD) {
            Check.due("moons(" + v + ")", x.moons(v), -2);
            Check.due("look(" + v + ")", x.look(v), -2);
        }
        Check.due("TRAY 4", x.moons(4), -2);
        Check.due("TRAY 4", x.look(4), -2);
        Check.due("MISSING", x.moons(3), -6);
        Check.due("MISSING", x.look(3), -6);
        looked(-4, -4);
        looked(1023, 0, 500);
        looked(1023, 0, 500, 501, 502, 503, 504, 505, 506, 599);
        looked(-4, -4, 500, 501, 502, 503, 504, 505, 506, 507, 599);
        looked(-4, -4, 500, 501, 502, 503, 504, 505, 506, 507, -1);
        looked(0, -1, 0);
        looked(0, -1, 99);
        looked(0, -1, 1000);
        looked(0, -1, 1099);
        for (long wrong : new long[] {-1, -100, -500, 1100, 1101, 10000, Integer.MIN_VALUE, Long.MIN_VALUE, Long.MAX_VALUE, 1L << 32 | 500}) {
            looked(-3, -3, wrong);
            looked(-3, -3, 500, 500, 500, 500, 500, 500, 500, wrong);
            looked(-3, -3, 0, wrong);
        }
        x.numbers(0, 3, 40);
        Check.due("40 numbers", x.moons(0), -4);
        x.numbers(0, 3, 8);
        Check.due("eight of 0", x.moons(0), 0);
    }

    private static void looked(int moons, int look, long... numbers) {
        SandHold y = Check.with("shore rows 1 columns 1;tide:5;");
        Check.tray(y, 0, numbers);
        Check.due("moons of " + numbers.length, y.moons(0), moons);
        Check.due("look of " + numbers.length, y.look(0), look);
    }

    private static void moonsOfMinutes() {
        Check.says("LOOKED in a TRAY (1 to 8 numbers: 100 times a LEVEL, and how many MINUTES from now on it is so (0 to 99)): MOONS 0 to 9 by which it is so.");
        SandHold x = Check.with("shore rows 1 columns 1;tide:if minute=0 then moon else if minute=99 then 9-moon else if minute=100 then moon+1 else 3 end end end;");
        moons(x, 1, 0);
        moons(x, 1 << 9, 900);
        moons(x, 0, 1000);
        moons(x, 1 << 9, 99);
        moons(x, 1, 999);
        moons(x, 1 << 4, 400, 599);
        moons(x, 0, 400, 499);
        moons(x, 1023, 398);
        x.minutes(1);
        moons(x, 1 << 9, 1099);
        moons(x, 1, 199);
        moons(x, 1 << 9, 98);
        x.moon(7);
        moons(x, 1 << 9, 98);
        Check.due("the MOON is as it was", x.count(4), 7);
    }

    private static void moons(SandHold x, int due, long... numbers) {
        Check.tray(x, 2, numbers);
        Check.due("moons of " + numbers[0], x.moons(2), due);
    }

    private static void lookNext() {
        Check.says("In how many MINUTES (0 to 99) to look next: the greatest number of these MOONS by which the LEVEL is the same then is least, the first. NONE: there are none; as moons().");
        look("5", 0);
        look("if minute=99 then moon else 0 end", 99);
        look("if minute=100 then moon else 0 end", 0);
        look("if minute=98 or minute=99 then moon else 0 end", 98);
        look("if minute=10 and moon=0 then 1 else if minute=20 and moon<5 then 1 else 0 end end", 20);
        look("if minute=10 and moon=9 then 1 else 0 end", 10);
        look("if minute=10 and moon<5 then 1 else if minute=20 and moon>4 then 1 else 0 end end", 10);
        SandHold x = Check.with("shore rows 1 columns 1;tide:5;");
        Check.tray(x, 0, 400);
        Check.due("there are none", x.look(0), -1);
        // one of these alone is told apart at once; moons that aren't of these don't count
        SandHold y = Check.with("shore rows 1 columns 1;tide:if minute=1 then if moon<2 then 1 else 0 end else if minute=5 and moon=0 then 1 else 0 end end;");
        Check.tray(y, 0, 101);
        Check.due("0 and 1", y.moons(0), 3);
        Check.due("told apart in 5", y.look(0), 5);
        y.minutes(1);
        Check.tray(y, 0, 100);
        Check.due("from now on", y.look(0), 4);
    }

    private static void look(String tide, int due) {
        SandHold x = Check.with("shore rows 1 columns 1;tide:" + tide + ";");
        // a MINUTE in which the tide is the same by all moons, so that all ten are of these
        Check.tray(x, 0, 100L * x.level(50) + 50);
        Check.due("look by " + tide, x.look(0), due);
    }

    private static void putsInARow() {
        Check.says("BY TURNS in a row: the CELL the first one had best put a house in (the first by which it wins). NONE: it loses; -2: the row.");
        for (int v : WILD) {
            Check.due("puts(" + v + ")", Check.with("shore rows 5 columns 5;").puts(v), -2);
        }
        int[] best = {0, 0, 1, -1, 2};
        for (int columns = 1; columns <= 5; columns++) {
            for (int rows = 1; rows <= 5; rows++) {
                SandHold x = Check.with("shore rows " + rows + " columns " + columns + ";");
                for (int row = 0; row < rows; row++) {
                    int due = best[columns - 1] < 0 ? -1 : row * columns + best[columns - 1];
                    Check.due("puts(" + row + ") of " + columns, x.puts(row), due);
                }
                Check.due("behind the last row", x.puts(rows), -2);
            }
        }
    }

    private static void putsBeside(String houses, int puts) {
        Check.due("puts beside " + houses, Check.with("shore rows 2 columns 5;tide:0;" + houses).puts(1), puts);
    }

    private static void putsBesideHouses() {
        Check.says("BY TURNS in a row: two put houses, one each time, in CELLS of the row in which none stands, nor in CELLS left or right of these; who can't has lost; both do their best.");
        putsBeside("", 7);
        // in the row ahead, at its ends and above: no matter
        putsBeside("house 4 owner 0;", 7);
        putsBeside("house 0 owner 0;house 1 owner 0;house 2 owner 0;house 3 owner 0;house 4 owner 0;", 7);
        putsBeside("house 5 owner 0;", 8);
        putsBeside("house 9 owner 0;", 6);
        putsBeside("house 6 owner 0;", 8);
        putsBeside("house 7 owner 0;", -1);
        putsBeside("house 8 owner 0;", 5);
        putsBeside("house 5 owner 0;house 9 owner 0;", 7);
        putsBeside("house 6 owner 0;house 8 owner 0;", -1);
        putsBeside("house 5 owner 0;house 8 owner 0;", -1);
        putsBeside("house 5 owner 0;house 6 owner 0;", 8);
        SandHold x = Check.with("shore rows 1 columns 1;house 0 owner 0;");
        Check.due("it can't", x.puts(0), -1);
        x.minutes(1);
        Check.due("none stands there", x.puts(0), 0);
        x.build(0, 0);
        Check.due("one stands there", x.puts(0), -1);
    }

    private static void winsInAll() {
        Check.says("BY TURNS in all rows together (who puts chooses the row; who can't anywhere has lost): 1 the first one wins, 0 the second one.");
        int[][] wins = {{1, 1, 1, 0, 1}, {0, 0, 0, 0, 0}, {1, 1, 1, 0, 1}, {0, 0, 0, 0, 0}, {1, 1, 1, 0, 1}};
        for (int rows = 1; rows <= 5; rows++) {
            for (int columns = 1; columns <= 5; columns++) {
                SandHold x = Check.with("shore rows " + rows + " columns " + columns + ";");
                Check.due("wins of " + rows + " by " + columns, x.wins(), wins[rows - 1][columns - 1]);
            }
        }
        SandHold full = Check.with("shore rows 2 columns 1;house 0 owner 0;house 1 owner 0;");
        Check.due("who can't anywhere", full.wins(), 0);
        full.minutes(1);
        Check.due("one fell", full.wins(), 1);
        // rows worth 3 and 2 and 1: together worth none, though the first wins in each
        SandHold nim = Check.with("shore rows 3 columns 5;house 5 owner 0;house 11 owner 0;");
        Check.due("row 0", nim.puts(0), 2);
        Check.due("row 1", nim.puts(1), 8);
        Check.due("row 2", nim.puts(2), 13);
        Check.due("together", nim.wins(), 0);
    }

    public static void main(String[] args) {
        dryIsNotWet();
        dryAtALevel();
        leastRefused();
        safeLevel();
        worstOfTen();
        doneAheadOfTheSea();
        likePlans();
        oneBehindTheOther();
        planWhat();
        orderOfPlots();
        fewestColours();
        coloursWhat();
        mostInAClique();
        cliqueWhat();
        papersOver();
        balances();
        fewestPayments();
        paymentsOfADebtor();
        moonsAsBits();
        lookedNumbers();
        moonsOfMinutes();
        lookNext();
        putsInARow();
        putsBesideHouses();
        winsInAll();
        Check.end("EdgePuzzleTest");
    }
}
