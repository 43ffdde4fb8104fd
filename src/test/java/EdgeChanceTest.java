/** Chances, promises 39 and 40: each sentence that names a boundary case, by a test of its own. */
public final class EdgeChanceTest {
    private static final int[] WILD = {Integer.MIN_VALUE, -1000, -2, -1, 1000, Integer.MAX_VALUE};

    /** One house in a cell as high as the tide: it falls in the first gale. */
    private static SandHold atTheBrim(int gale, int tide) {
        return Check.with("shore rows 1 columns 1;sand 0 " + tide + ";tide:" + tide + ";gale " + gale + ";house 0 owner 0;");
    }

    private static void chance(SandHold x, int h, int n, int above, int below) {
        Check.due("chance(" + h + ", " + n + ", 0)", x.chance(h, n, 0), above);
        Check.due("chance(" + h + ", " + n + ", 1)", x.chance(h, n, 1), below);
    }

    private static void mean(SandHold x, int n, int above, int below) {
        Check.due("mean(" + n + ", 0)", x.mean(n, 0), above);
        Check.due("mean(" + n + ", 1)", x.mean(n, 1), below);
    }

    private static void galesOfTen() {
        Check.says("CHANCE: in each MINUTE, as likely as the gale tells, in 10, by itself, the LEVEL is 1 more (10 at most).");
        int[] above = {1, 9, 4, 7, 3, 1, 2, 3, 1, 1, 0};
        int[] below = {1, 10, 5, 10, 5, 2, 5, 10, 5, 10, 1};
        for (int gale = 0; gale <= 10; gale++) {
            chance(atTheBrim(gale, 5), 0, 1, above[gale], below[gale]);
        }
        chance(atTheBrim(1, 9), 0, 1, 9, 10);
        chance(atTheBrim(1, 0), 0, 1, 9, 10);
        // each MINUTE by itself
        chance(atTheBrim(3, 5), 0, 2, 49, 100);
        chance(atTheBrim(3, 5), 0, 3, 343, 1000);
        // 10 at most: by the law 10 already, and told so to the washes
        SandHold x = Check.with("shore rows 1 columns 2;sand 0 9;sand 1 9;tide:10;gale 10;washes:if level>10 then 0 else 9 end;");
        x.build(0, 0);
        chance(x, 0, 1, 0, 1);
        SandHold y = Check.with("shore rows 2 columns 1;sand 0 0;sand 1 9;tide:if minute=1 then 9 else 10 end;gale 5;house 1 owner 0;washes:level-1;");
        chance(y, 0, 1, 1, 2);
        // 1 more than the tide of that MINUTE, not than the LEVEL ahead of it
        SandHold z = Check.with("shore rows 1 columns 1;sand 0 2;tide:1;gale 5;house 0 owner 0;");
        chance(z, 0, 8, 1, 1);
        // a gale that doesn't reach the house takes nothing of the chance
        for (int gale = 0; gale <= 10; gale++) {
            chance(Check.with("shore rows 1 columns 1;sand 0 3;tide:1;gale " + gale + ";house 0 owner 0;"), 0, 8, 1, 1);
        }
        // what the sea does without the gale is no matter with it: 9 washed up would keep the house
        chance(Check.with("shore rows 2 columns 1;sand 0 0;sand 1 1;house 1 owner 0;tide:1;gale 5;washes:9;"), 0, 1, 1, 2);
        chance(Check.with("shore rows 2 columns 1;sand 0 0;sand 1 1;house 1 owner 0;tide:1;gale 5;washes:9;"), 0, 8, 1, 2);
        // without a gale the LEVEL of other calls is the tide's
        SandHold w = atTheBrim(10, 5);
        Check.due("level()", w.level(1), 5);
        Check.due("falls()", w.falls(0), -1);
        Check.due("minutes()", w.minutes(60), 1);
    }

    private static void chanceOfAHouse() {
        Check.says("CHANCE that a house stands behind n MINUTES (0 to 8), what 0: the number above, 1: below, in lowest terms. -2: the house, what; -3: n.");
        SandHold x = atTheBrim(5, 5);
        int below = 1;
        for (int n = 0; n <= 8; n++) {
            chance(x, 0, n, 1, below);
            below *= 2;
        }
        Check.due("n 9", x.chance(0, 9, 0), -3);
        Check.due("what 2", x.chance(0, 0, 2), -2);
        Check.due("house 1", x.chance(1, 0, 0), -2);
        for (int v : WILD) {
            Check.due("house " + v, x.chance(v, 0, 0), -2);
            Check.due("n " + v, x.chance(0, v, 0), -3);
            Check.due("what " + v, x.chance(0, 0, v), -2);
            Check.due("the house ahead of n", x.chance(1, v, 0), -2);
            Check.due("what ahead of n", x.chance(0, v, 2), -2);
        }
        Check.due("no house", new SandHold().chance(0, 0, 0), -2);
        chance(atTheBrim(1, 5), 0, 8, 43046721, 100000000);
        chance(atTheBrim(9, 5), 0, 8, 1, 100000000);
        chance(atTheBrim(10, 5), 0, 8, 0, 1);
        chance(atTheBrim(10, 5), 0, 0, 1, 1);
        x.minutes(1);
        Check.due("it stands", x.count(3), 1);
        Check.due("MINUTE", x.count(5), 1);
        SandHold y = Check.with("shore rows 1 columns 1;house 0 owner 0;gale 5;");
        y.minutes(1);
        chance(y, 0, 0, 0, 1);
        chance(y, 0, 8, 0, 1);
    }

    private static void meanOfHouses() {
        Check.says("How many houses stand on the mean behind n MINUTES (0 to 8), what 0: above, 1: below, in lowest terms. -2; -3.");
        mean(new SandHold(), 0, 0, 1);
        mean(new SandHold(), 8, 0, 1);
        SandHold x = atTheBrim(5, 5);
        int below = 1;
        for (int n = 0; n <= 8; n++) {
            mean(x, n, 1, below);
            below *= 2;
        }
        Check.due("n 9", x.mean(9, 0), -3);
        Check.due("what 2", x.mean(0, 2), -2);
        for (int v : WILD) {
            Check.due("n " + v, x.mean(v, 0), -3);
            Check.due("what " + v, x.mean(0, v), -2);
            Check.due("what ahead of n", x.mean(v, 2), -2);
        }
        String six = "house 0 owner 0;house 1 owner 0;house 2 owner 0;house 3 owner 0;house 4 owner 0;house 5 owner 0;";
        SandHold all = Check.with("shore rows 2 columns 3;sand 0 1;sand 1 1;sand 2 1;tide:1;gale 1;" + six);
        mean(all, 0, 6, 1);
        mean(all, 1, 27, 5);
        mean(all, 8, 129140163, 50000000);
        SandHold dry = Check.with("shore rows 2 columns 3;tide:0;gale 0;" + six);
        mean(dry, 8, 6, 1);
        SandHold drowned = Check.with("shore rows 2 columns 3;tide:10;gale 10;" + six);
        mean(drowned, 1, 0, 1);
        Check.due("nothing is done", drowned.count(3), 63);
        drowned.minutes(1);
        mean(drowned, 0, 0, 1);
    }

    public static void main(String[] args) {
        galesOfTen();
        chanceOfAHouse();
        meanOfHouses();
        Check.end("EdgeChanceTest");
    }
}
