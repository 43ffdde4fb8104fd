/** Promises 39 and 40: how likely a house stands, how many stand on the mean. */
public final class ChanceTest {
    private static void chance(SandHold x, int h, int n, int above, int below) {
        Check.due("chance(" + h + ", " + n + ", 0)", x.chance(h, n, 0), above);
        Check.due("chance(" + h + ", " + n + ", 1)", x.chance(h, n, 1), below);
    }

    private static void mean(SandHold x, int n, int above, int below) {
        Check.due("mean(" + n + ", 0)", x.mean(n, 0), above);
        Check.due("mean(" + n + ", 1)", x.mean(n, 1), below);
    }

    private static void gales() {
        SandHold x = Check.with("shore rows 1 columns 3;sand 0 1;sand 1 2;sand 2 0;tide:1;gale 3;house 0 owner 0;house 1 owner 1;house 2 owner 2;");
        chance(x, 0, 0, 1, 1);
        chance(x, 0, 1, 7, 10);
        chance(x, 0, 2, 49, 100);
        chance(x, 0, 8, 5764801, 100000000);
        chance(x, 1, 8, 1, 1);
        chance(x, 2, 0, 1, 1);
        chance(x, 2, 1, 0, 1);
        mean(x, 0, 3, 1);
        mean(x, 1, 17, 10);
        mean(x, 2, 149, 100);
        mean(x, 8, 105764801, 100000000);
        Check.due("nothing is done", x.count(3), 7);
        Check.due("nothing is done", x.count(5), 0);
        x.minutes(1);
        chance(x, 2, 0, 0, 1);
        mean(x, 0, 2, 1);
    }

    private static void lowestTerms() {
        SandHold x = Check.with("shore rows 1 columns 1;sand 0 1;tide:1;gale 5;house 0 owner 0;");
        chance(x, 0, 1, 1, 2);
        chance(x, 0, 3, 1, 8);
        chance(x, 0, 8, 1, 256);
        x = Check.with("shore rows 1 columns 1;sand 0 1;tide:1;gale 8;house 0 owner 0;");
        chance(x, 0, 1, 1, 5);
        chance(x, 0, 8, 1, 390625);
        x = Check.with("shore rows 1 columns 1;sand 0 1;tide:1;gale 10;house 0 owner 0;");
        chance(x, 0, 1, 0, 1);
        chance(x, 0, 0, 1, 1);
        x = Check.with("shore rows 1 columns 1;sand 0 1;tide:1;gale 1;house 0 owner 0;");
        chance(x, 0, 2, 81, 100);
        x = Check.with("shore rows 1 columns 1;sand 0 1;tide:1;gale 9;house 0 owner 0;");
        chance(x, 0, 2, 1, 100);
        x = Check.with("shore rows 1 columns 1;sand 0 1;tide:1;gale 0;house 0 owner 0;");
        chance(x, 0, 8, 1, 1);
        x = Check.with("shore rows 2 columns 3;sand 0 1;sand 1 1;sand 2 1;sand 3 1;sand 4 1;sand 5 1;tide:1;gale 5;"
            + "house 0 owner 0;house 1 owner 0;house 2 owner 0;house 3 owner 0;house 4 owner 0;house 5 owner 0;");
        mean(x, 1, 3, 1);
        mean(x, 2, 3, 2);
    }

    private static void theLevelIsTenAtMost() {
        SandHold x = Check.with("shore rows 1 columns 1;sand 0 9;tide:10;gale 5;house 0 owner 0;washes:if level>10 then 0 else 9 end;");
        chance(x, 0, 1, 0, 1);
        x = Check.with("shore rows 1 columns 1;sand 0 9;tide:9;gale 5;house 0 owner 0;");
        chance(x, 0, 2, 1, 4);
        // the law of the tide is kept at 10 first
        x = Check.with("shore rows 1 columns 2;sand 0 0;sand 1 9;tide:10;gale 5;washes:level-1;house 1 owner 0;");
        mean(x, 1, 0, 1);
        // a tide below 0 is 0, and a gale makes it 1
        x = Check.with("shore rows 1 columns 1;sand 0 0;tide:0-5;gale 1;house 0 owner 0;");
        chance(x, 0, 1, 9, 10);
        chance(x, 0, 2, 81, 100);
    }

    private static void galesWashToo() {
        // a gale in the first MINUTE washes the wall away (level 2); then the plain tide (1) takes the house behind it
        SandHold x = Check.with("shore rows 2 columns 1;sand 0 1;sand 1 0;house 1 owner 0;tide:1;gale 2;washes:if level=2 then 0 else 1 end;");
        chance(x, 0, 1, 4, 5);
        x = Check.with("shore rows 2 columns 1;sand 0 1;sand 1 1;house 1 owner 0;tide:if minute=1 then 1 else 2 end;gale 2;washes:9;");
        // no gale: in 2 both are wet; a gale: both in 1
        chance(x, 0, 2, 0, 1);
        x = Check.with("shore rows 2 columns 1;sand 0 1;sand 1 2;house 1 owner 0;tide:if minute=1 then 1 else 3 end;gale 2;washes:9;");
        // a gale in the first MINUTE raises the wall to 9, so the house stands by it alone
        chance(x, 0, 1, 1, 1);
        chance(x, 0, 2, 1, 5);
        // by MINUTE and MOON from now on
        x = Check.with("shore rows 1 columns 1;sand 0 5;tide:minute+moon;moon 1;gale 5;house 0 owner 0;");
        chance(x, 0, 3, 1, 1);
        chance(x, 0, 4, 1, 2);
        chance(x, 0, 5, 0, 1);
        x.moon(2);
        chance(x, 0, 3, 1, 2);
        x.moon(0);
        x.minutes(1);
        chance(x, 0, 3, 1, 1);
        chance(x, 0, 4, 0 + 1, 2 - 0);
    }

    private static void refused() {
        SandHold x = Check.with("shore rows 1 columns 1;house 0 owner 0;");
        Check.due("no such house", x.chance(1, 0, 0), -2);
        Check.due("no such house", x.chance(-1, 0, 0), -2);
        Check.due("what", x.chance(0, 0, 2), -2);
        Check.due("what", x.chance(0, 0, -1), -2);
        Check.due("the house ahead of n", x.chance(1, 9, 0), -2);
        Check.due("what ahead of n", x.chance(0, 9, 2), -2);
        Check.due("n", x.chance(0, 9, 0), -3);
        Check.due("n", x.chance(0, -1, 0), -3);
        Check.due("what", x.mean(0, 2), -2);
        Check.due("what", x.mean(0, -1), -2);
        Check.due("what ahead of n", x.mean(9, 2), -2);
        Check.due("n", x.mean(9, 1), -3);
        Check.due("n", x.mean(-1, 1), -3);
        mean(new SandHold(), 8, 0, 1);
    }

    public static void main(String[] args) {
        gales();
        lowestTerms();
        theLevelIsTenAtMost();
        galesWashToo();
        refused();
        Check.end("ChanceTest");
    }
}
