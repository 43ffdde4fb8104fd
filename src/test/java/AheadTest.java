/** Promises 19 to 24: which house falls when, what is wet and worn going on, who has most. */
public final class AheadTest {
    private static final String STEPS = "shore rows 4 columns 1;house 3 owner 2;house 0 owner 1;house 2 owner 2;house 1 owner 1;";

    private static void housesFall() {
        SandHold x = Check.with(STEPS);
        int[] falls = {4, 1, 3, 2};
        for (int h = 0; h < 4; h++) {
            Check.due("falls(" + h + ")", x.falls(h), falls[h]);
        }
        Check.due("falls(4)", x.falls(4), -2);
        Check.due("falls(-1)", x.falls(-1), -2);
        x.minutes(1);
        Check.due("from now on", x.falls(0), 3);
        Check.due("it has fallen", x.falls(1), -1);
        Check.due("nothing is done", x.count(5), 1);
        Check.due("nor can more be undone", x.count(9), 1);
        SandHold y = Check.with("shore rows 1 columns 3;house 0 owner 0;house 1 owner 0;sand 2 5;house 2 owner 0;"
            + "tide:if minute=60 then 1 else if minute=61 then 10 else 0 end end;sand 1 1;");
        Check.due("in the 60th", y.falls(0), 60);
        Check.due("not in 60", y.falls(1), -1);
        y.minutes(1);
        Check.due("now it is", y.falls(1), 60);
    }

    private static void whichStand() {
        SandHold x = Check.with(STEPS);
        int[] stand = {15, 13, 5, 1, 0};
        for (int n = 0; n < 5; n++) {
            Check.due("stands(" + n + ")", x.stands(n), stand[n]);
        }
        Check.due("stands(60)", x.stands(60), 0);
        Check.due("stands(61)", x.stands(61), -3);
        Check.due("stands(-1)", x.stands(-1), -3);
        Check.due("nothing is done", x.count(3), 15);
    }

    private static void whenCellsAreWet() {
        SandHold x = Check.with("shore rows 4 columns 1;sand 3 9;");
        for (int c = 0; c < 3; c++) {
            Check.due("when(" + c + ")", x.when(c), c + 1);
        }
        Check.due("never", x.when(3), -1);
        Check.due("when(4)", x.when(4), -2);
        Check.due("when(-1)", x.when(-1), -2);
        x.minutes(2);
        Check.due("from now on", x.when(2), 1);
        SandHold y = Check.with("shore rows 1 columns 2;sand 1 1;tide:if minute=60 then 1 else if minute=61 then 2 else 0 end end;");
        Check.due("in the 60th", y.when(0), 60);
        Check.due("not in 60", y.when(1), -1);
        // sand that is washed away lets the sea in
        SandHold z = Check.with("shore rows 2 columns 1;sand 0 2;sand 1 0;tide:if minute<4 then 3-minute*0 else 2 end;washes:0;");
        Check.due("the wall", z.when(0), 1);
        Check.due("and behind it", z.when(1), 1);
        SandHold w = Check.with("shore rows 2 columns 1;sand 0 2;sand 1 4;tide:if minute=3 then 5 else 3 end;washes:5;");
        Check.due("raised by the sea", w.when(0), 1);
        Check.due("so dry behind it", w.when(1), -1);
    }

    private static void howSandIsWorn() {
        SandHold x = Check.with("shore rows 1 columns 2;sand 0 9;sand 1 5;tide:10;washes:height-1;");
        for (int n = 0; n <= 60; n++) {
            Check.due("worn(0, " + n + ")", x.worn(0, n), Math.max(0, 9 - n));
            Check.due("worn(1, " + n + ")", x.worn(1, n), Math.max(0, 5 - n));
        }
        Check.due("worn(2, 0)", x.worn(2, 0), -2);
        Check.due("worn(-1, 0)", x.worn(-1, 0), -2);
        Check.due("the cell ahead of n", x.worn(2, 61), -2);
        Check.due("worn(0, 61)", x.worn(0, 61), -3);
        Check.due("worn(0, -1)", x.worn(0, -1), -3);
        Check.due("nothing is done", x.sand(0), 9);
    }

    private static void whichStandsLongest() {
        SandHold x = Check.with(STEPS);
        Check.due("the highest", x.last(), 0);
        x.minutes(4);
        Check.due("none stands now", x.last(), -1);
        Check.due("none at all", new SandHold().last(), -1);
        x = Check.with("shore rows 1 columns 3;house 0 owner 0;house 1 owner 0;house 2 owner 0;sand 1 3;sand 2 3;");
        Check.due("the first of two", x.last(), 1);
        x = Check.with("shore rows 1 columns 3;house 0 owner 0;house 1 owner 0;house 2 owner 0;tide:0;");
        Check.due("the first that never falls", x.last(), 0);
        x = Check.with("shore rows 1 columns 2;house 0 owner 0;house 1 owner 0;");
        Check.due("all fall in the first MINUTE", x.last(), 0);
        x = Check.with("shore rows 1 columns 2;house 0 owner 0;house 1 owner 0;sand 1 1;tide:if minute=60 then 1 else 0 end;");
        Check.due("one that falls in the 60th MINUTE stands less long", x.last(), 1);
        x = Check.with("shore rows 1 columns 2;house 0 owner 0;house 1 owner 0;sand 1 1;"
            + "tide:if minute=61 then 1 else if minute=62 then 2 else 0 end end;");
        Check.due("what comes behind 60 doesn't count", x.last(), 0);
    }

    private static void whoHasMost() {
        SandHold x = Check.with("shore rows 3 columns 2;house 0 owner 4;house 1 owner 4;house 2 owner 3;house 3 owner 1;house 5 owner 1;"
            + "house 4 owner 4;");
        Check.due("three of owner 4", x.owner(0), 4);
        Check.due("behind one MINUTE", x.owner(1), 1);
        Check.due("the first of two", x.owner(2), 1);
        Check.due("nobody", x.owner(3), -1);
        Check.due("owner(60)", x.owner(60), -1);
        Check.due("owner(61)", x.owner(61), -3);
        Check.due("owner(-1)", x.owner(-1), -3);
        x.minutes(2);
        Check.due("from now on", x.owner(0), 1);
        SandHold y = Check.with("shore rows 1 columns 2;house 0 owner 3;house 1 owner 0;tide:0;");
        Check.due("the first OWNER, not house", y.owner(60), 0);
    }

    public static void main(String[] args) {
        housesFall();
        whichStand();
        whenCellsAreWet();
        howSandIsWorn();
        whichStandsLongest();
        whoHasMost();
        Check.end("AheadTest");
    }
}
