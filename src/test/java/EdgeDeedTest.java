/** What a minute and deeds do, promises 10 to 18: each sentence that names a boundary case, by a test of its own. */
public final class EdgeDeedTest {
    private static final int[] WILD = {Integer.MIN_VALUE, -1000, -2, -1};

    private static int tide(String law) {
        return Check.with("shore rows 1 columns 1;moon 4;tide:" + law + ";").level(7);
    }

    private static int washes(int high, String law) {
        SandHold x = Check.with("shore rows 1 columns 1;sand 0 " + high + ";moon 4;tide:10;washes:" + law + ";");
        x.minutes(1);
        return x.sand(0);
    }

    private static void minuteIsOneMore() {
        Check.says("In a MINUTE: MINUTE is one more (0 at first);");
        SandHold x = Check.with("shore rows 1 columns 1;tide:if minute=1 then 10 else 0 end;washes:minute+4;");
        Check.due("0 at first", x.count(5), 0);
        Check.due("MINUTE 0 has no sea", x.level(0), 0);
        x.minutes(1);
        Check.due("one more", x.count(5), 1);
        Check.due("the tide and the washes of MINUTE 1", x.sand(0), 5);
        x.minutes(1);
        Check.due("one more", x.count(5), 2);
        Check.due("none in MINUTE 2", x.sand(0), 5);
    }

    private static void levelByALaw() {
        Check.says("the LEVEL is what the law tide tells, 0 at least, 10 at most");
        Check.due("-1", tide("0-1"), 0);
        Check.due("-1,000,000", tide("0-999*999*999"), 0);
        Check.due("0", tide("0"), 0);
        Check.due("1", tide("1"), 1);
        Check.due("9", tide("9"), 9);
        Check.due("10", tide("10"), 10);
        Check.due("11", tide("11"), 10);
        Check.due("1,000,000", tide("999*999*999"), 10);
        Check.due("level in washes is 10 at most", washes(0, "level-1"), 9);
        SandHold x = Check.with("shore rows 1 columns 1;tide:99;washes:level-5;");
        x.minutes(1);
        Check.due("level in washes is 10 at most", x.sand(0), 5);
        x = Check.with("shore rows 1 columns 1;tide:0-99;washes:9;");
        x.minutes(1);
        Check.due("nothing is WET at 0", x.sand(0), 0);
    }

    private static void levelWithoutALaw() {
        Check.says("(without one: the rest of MINUTE by 18, 18 less it if that is above 9);");
        SandHold x = new SandHold();
        int[] minutes = {0, 1, 8, 9, 10, 17, 18, 19, 26, 27, 28, 35, 36, 990, 999};
        int[] levels = {0, 1, 8, 9, 8, 1, 0, 1, 8, 9, 8, 1, 0, 0, 9};
        for (int i = 0; i < minutes.length; i++) {
            Check.due("level(" + minutes[i] + ")", x.level(minutes[i]), levels[i]);
        }
        SandHold y = Check.with("shore rows 1 columns 1;sand 0 8;");
        y.minutes(8);
        y.build(0, 0);
        Check.due("9 in the ninth", y.falls(0), 1);
        y.minutes(1);
        y.build(0, 0);
        Check.due("8 in the tenth, 9 in the 27th", y.falls(1), 18);
    }

    private static void wetIfLess() {
        Check.says("a CELL is WET, if it is less HIGH than the LEVEL, and lies in row 0 or side by side with (above, below, left, right of) a WET one;");
        for (int level = 0; level <= 10; level++) {
            for (int high = 0; high <= 9; high++) {
                SandHold x = Check.with("shore rows 1 columns 1;sand 0 " + high + ";");
                Check.due(high + " at " + level, x.wet(level), high < level ? 1 : 0);
            }
        }
        // one hollow each: below, above, left and right of a WET one, and slantwise
        Check.due("below", hollows(0, 3).wet(1), 1 | 1 << 3);
        Check.due("right", hollows(0, 1).wet(1), 3);
        Check.due("left", hollows(2, 5, 4).wet(1), 1 << 2 | 1 << 5 | 1 << 4);
        Check.due("right", hollows(0, 3, 4).wet(1), 1 | 1 << 3 | 1 << 4);
        Check.due("above", hollows(0, 3, 6, 7, 8, 5).wet(1), 1 | 1 << 3 | 7 << 6 | 1 << 5);
        Check.due("slantwise", hollows(0, 4).wet(1), 1);
        Check.due("slantwise", hollows(1, 3, 5).wet(1), 2);
        Check.due("the end of a row and the next one's beginning", hollows(2, 3).wet(1), 4);
        Check.due("no WET one beside it", hollows(4, 8).wet(1), 0);
        Check.due("the last row is not by the sea", hollows(6, 7, 8).wet(1), 0);
        Check.due("the side of the shore is not the sea", hollows(3, 5).wet(1), 0);
    }

    /** Three rows of three, 1 high all but these, which are 0. */
    private static SandHold hollows(int... cells) {
        StringBuilder text = new StringBuilder("shore rows 3 columns 3;");
        for (int c = 0; c < 9; c++) {
            boolean hollow = false;
            for (int h : cells) {
                hollow |= h == c;
            }
            text.append("sand " + c + (hollow ? " 0;" : " 1;"));
        }
        return Check.with(text.toString());
    }

    private static void housesFall() {
        Check.says("houses in WET CELLS fall;");
        SandHold x = Check.with("shore rows 2 columns 2;sand 0 4;sand 1 5;sand 2 4;sand 3 0;house 0 owner 0;house 1 owner 0;house 2 owner 0;house 3 owner 0;tide:5;washes:9;");
        Check.due("5 at 5 is dry", x.minutes(1), 1);
        Check.due("the three others fell", x.count(3), 2);
        Check.due("sand raised by the sea saves none", x.sand(0), 9);
        SandHold y = Check.with("shore rows 1 columns 1;house 0 owner 0;tide:if minute=1 then 1 else 0 end;");
        y.minutes(2);
        Check.due("a fallen one doesn't stand up", y.count(3), 0);
    }

    private static void sandByALaw() {
        Check.says("then each WET CELL is as HIGH as the law washes tells, 0 at least, 9 at most, all at once (without one: as it was).");
        Check.due("-1", washes(5, "0-1"), 0);
        Check.due("-1,000,000", washes(5, "0-999*999*999"), 0);
        Check.due("0", washes(5, "0"), 0);
        Check.due("1", washes(5, "1"), 1);
        Check.due("9", washes(5, "9"), 9);
        Check.due("10", washes(5, "10"), 9);
        Check.due("1,000,000", washes(5, "999*999*999"), 9);
        // a row of four, 1 2 3 9: near counts those that were WET, not those that still would be
        SandHold x = Check.with("shore rows 1 columns 4;sand 0 1;sand 1 2;sand 2 3;sand 3 9;tide:4;washes:9-near*height;");
        x.minutes(1);
        int[] high = {8, 5, 6, 9};
        for (int c = 0; c < 4; c++) {
            Check.due("all at once: " + c, x.sand(c), high[c]);
        }
        SandHold y = Check.with("shore rows 1 columns 2;sand 0 3;sand 1 5;tide:4;");
        y.minutes(3);
        Check.due("without one", y.sand(0), 3);
        SandHold z = Check.with("shore rows 1 columns 2;sand 0 3;sand 1 4;tide:4;washes:0;");
        z.minutes(1);
        Check.due("a WET one", z.sand(0), 0);
        Check.due("one that isn't WET", z.sand(1), 4);
    }

    private static void namesInLaws() {
        Check.says("In washes row: of the CELL; height: how HIGH it is; level: the LEVEL; near: how many CELLS side by side with it are WET.");
        SandHold x = Check.with("shore rows 5 columns 2;sand 8 1;sand 9 2;sand 6 0;sand 4 0;sand 2 0;tide:5;washes:row;");
        x.minutes(1);
        for (int c = 0; c < 10; c++) {
            Check.due("row of " + c, x.sand(c), c / 2);
        }
        x = Check.with("shore rows 3 columns 3;tide:5;washes:near;");
        x.minutes(1);
        int[] near = {2, 3, 2, 3, 4, 3, 2, 3, 2};
        for (int c = 0; c < 9; c++) {
            Check.due("near of " + c, x.sand(c), near[c]);
        }
        Check.due("near of one alone", washes(5, "near"), 0);
        x = Check.with("shore rows 2 columns 2;sand 0 0;sand 1 9;sand 2 9;sand 3 0;tide:5;washes:near+1;");
        x.minutes(1);
        Check.due("dry ones are not near", x.sand(0), 1);
        Check.due("height 0", washes(0, "height"), 0);
        Check.due("height 9", washes(9, "height"), 9);
        Check.due("moon", washes(9, "moon"), 4);
        Check.due("minute", washes(9, "minute"), 1);
    }

    private static void namesInBothLaws() {
        Check.says("In both laws: minute: the MINUTE; moon: the MOON.");
        Check.due("minute 7", tide("minute"), 7);
        Check.due("moon 4", tide("moon"), 4);
        SandHold x = Check.with("shore rows 1 columns 1;moon 9;tide:if minute=0 then moon else 10-minute end;washes:minute+moon*0;");
        Check.due("MINUTE 0 and MOON 9", x.level(0), 9);
        x.minutes(2);
        Check.due("minute 2", x.sand(0), 2);
        x.moon(0);
        Check.due("MOON 0", x.level(0), 0);
        SandHold y = Check.with("shore rows 1 columns 1;moon 9;tide:10;washes:moon;");
        y.minutes(1);
        Check.due("moon 9", y.sand(0), 9);
        y.moon(0);
        y.minutes(1);
        Check.due("moon 0", y.sand(0), 0);
        SandHold z = Check.with("shore rows 1 columns 1;moon 3;washes:minute*2+moon;");
        z.minutes(1);
        Check.due("by the plain tide, too", z.sand(0), 5);
    }

    private static void keptInBounds() {
        Check.says("Each + - * is kept from -1,000,000 to 1,000,000;");
        String million = "(999+1)*(999+1)";
        String minus = "(0-" + million + ")";
        String[] holds = {
            million + "-1<" + million, million + "+1=" + million, million + "+0-1=" + million + "-1",
            "999*999+999+999+1=" + million, "999*999+999+999<" + million, "999*999+999+999+2=" + million,
            "(999+1)*(999+2)=" + million, "(999+1)*999<" + million,
            minus + "-1=" + minus, minus + "+1>" + minus, "0-999*999-999-999-1=" + minus, "0-999*999-999-999>" + minus,
            "(0-999-1)*(999+2)=" + minus, "(0-999-1)*999>" + minus,
            million + "*" + million + "=" + million, minus + "*" + million + "=" + minus, minus + "*" + minus + "=" + million,
            million + "-" + minus + "=" + million, minus + "-" + million + "=" + minus, minus + "+" + minus + "=" + minus,
            million + "+" + million + "-" + million + "=0", minus + "+" + minus + "-" + minus + "=0",
            million + "*999*0=0", million + "+" + minus + "=0",
        };
        for (String truth : holds) {
            Check.due(truth, tide("if " + truth + " then 1 else 2 end"), 1);
            Check.due(truth + " in washes", washes(9, "if " + truth + " then 1 else 2 end"), 1);
        }
    }

    private static void ifTellsOne() {
        Check.says("if tells the one SUM, if the TRUTH holds, else the other one.");
        Check.due("it holds", tide("if minute=7 then 1 else 2 end"), 1);
        Check.due("it doesn't", tide("if minute=8 then 1 else 2 end"), 2);
        Check.due("either within a SUM", tide("2*if moon<4 then 1 else 2 end+1"), 5);
        Check.due("either within a SUM", tide("2*if moon<5 then 1 else 2 end+1"), 3);
        Check.due("one in another", tide("if moon>3 then if moon>4 then 1 else 2 end else 3 end"), 2);
    }

    private static void minutesOneTo99() {
        Check.says("n MINUTES (1 to 99): how many houses stand then. -3.");
        SandHold x = Check.with("shore rows 1 columns 2;house 0 owner 0;house 1 owner 1;sand 1 9;tide:if minute=99 then 1 else if minute=198 then 10 else 0 end end;");
        for (int n : WILD) {
            Check.due("minutes(" + n + ")", x.minutes(n), -3);
        }
        Check.due("minutes(0)", x.minutes(0), -3);
        Check.due("minutes(100)", x.minutes(100), -3);
        Check.due("the most", x.minutes(Integer.MAX_VALUE), -3);
        Check.due("no MINUTE", x.count(5), 0);
        Check.due("nothing to undo", x.count(9), 0);
        Check.due("99", x.minutes(99), 1);
        Check.due("MINUTE", x.count(5), 99);
        Check.due("98", x.minutes(98), 1);
        Check.due("1", x.minutes(1), 0);
        Check.due("each as a whole", x.undo(2), 1);
        Check.due("behind 99", x.count(5), 99);
    }

    private static void raiseToNine() {
        Check.says("To RAISE: how HIGH then. -11, -12.");
        SandHold x = Check.with("shore rows 5 columns 5;sand 24 8;sand 0 0;");
        Check.due("0 to 1", x.raise(0), 1);
        Check.due("8 to 9", x.raise(24), 9);
        Check.due("9", x.raise(24), -12);
        Check.due("it is 9", x.sand(24), 9);
        for (int c : WILD) {
            Check.due("raise(" + c + ")", x.raise(c), -11);
        }
        Check.due("raise(25)", x.raise(25), -11);
        Check.due("the most", x.raise(Integer.MAX_VALUE), -11);
        Check.due("two were done", x.count(9), 2);
    }

    private static void digToNone() {
        Check.says("To DIG: how HIGH then. -11, -12.");
        SandHold x = Check.with("shore rows 5 columns 5;sand 24 1;sand 0 9;");
        Check.due("9 to 8", x.dig(0), 8);
        Check.due("1 to 0", x.dig(24), 0);
        Check.due("0", x.dig(24), -12);
        Check.due("it is 0", x.sand(24), 0);
        for (int c : WILD) {
            Check.due("dig(" + c + ")", x.dig(c), -11);
        }
        Check.due("dig(25)", x.dig(25), -11);
        Check.due("the most", x.dig(Integer.MAX_VALUE), -11);
        Check.due("two were done", x.count(9), 2);
    }

    private static void oneMoreOneLess() {
        Check.says("To RAISE a CELL: it is 1 more HIGH. To DIG it: 1 less. To BUILD: one more house, of an OWNER, in a CELL where none stands. Another MOON.");
        SandHold x = Check.with("shore rows 1 columns 3;sand 1 0;house 2 owner 0;");
        for (int high = 1; high <= 9; high++) {
            Check.due("1 more", x.raise(1), high);
        }
        Check.due("no more", x.raise(1), -12);
        for (int high = 8; high >= 0; high--) {
            Check.due("1 less", x.dig(1), high);
        }
        Check.due("no less", x.dig(1), -12);
        Check.due("those beside it stay", x.sand(0) + x.sand(2), 0);
        Check.due("a house is no matter", x.raise(2), 1);
        Check.due("it stands", x.count(3), 1);
        Check.due("one more house", x.build(1, 4), 1);
        Check.due("a house stands there", x.build(2, 0), -13);
        for (int n = 9; n >= 0; n--) {
            Check.due("another MOON", x.moon(n), n == 9 ? 0 : n + 1);
        }
        Check.due("no MINUTE goes by", x.count(5), 0);
    }

    private static void buildSix() {
        Check.says("To BUILD: the number of the house. -11, -12, -13.");
        SandHold x = Check.with("shore rows 5 columns 5;sand 24 9;");
        for (int v : WILD) {
            Check.due("in " + v, x.build(v, 0), -11);
            Check.due("by " + v, x.build(0, v), -11);
        }
        Check.due("in 25", x.build(25, 0), -11);
        Check.due("by 5", x.build(0, 5), -11);
        Check.due("the most", x.build(Integer.MAX_VALUE, Integer.MAX_VALUE), -11);
        Check.due("the last CELL and OWNER", x.build(24, 4), 0);
        Check.due("a house stands there", x.build(24, 0), -13);
        Check.due("the first CELL and OWNER", x.build(0, 0), 1);
        x.minutes(1);
        Check.due("where one fell", x.build(0, 1), 2);
        Check.due("where it stands now", x.build(0, 1), -13);
        Check.due("the fourth", x.build(1, 0), 3);
        Check.due("the fifth", x.build(2, 0), 4);
        Check.due("the sixth", x.build(3, 0), 5);
        Check.due("a seventh, fallen ones too", x.build(4, 0), -12);
        Check.due("-11 ahead of -12: CELL", x.build(25, 0), -11);
        Check.due("-11 ahead of -12: OWNER", x.build(4, 5), -11);
        Check.due("-12 ahead of -13", x.build(24, 0), -12);
        Check.due("-11 ahead of -13", x.build(24, 5), -11);
        Check.due("six", x.count(2), 6);
        Check.due("seven calls did some", x.count(9), 7);
        x.undo(1);
        Check.due("again the sixth", x.build(4, 0), 5);
    }

    private static void moonZeroToNine() {
        Check.says("Another MOON (0 to 9): what it was. -11.");
        SandHold x = Check.with("shore rows 1 columns 1;moon 4;");
        Check.due("0", x.moon(0), 4);
        Check.due("9", x.moon(9), 0);
        for (int n : WILD) {
            Check.due("moon(" + n + ")", x.moon(n), -11);
        }
        Check.due("moon(10)", x.moon(10), -11);
        Check.due("the most", x.moon(Integer.MAX_VALUE), -11);
        Check.due("it is still", x.count(4), 9);
        Check.due("two were done", x.count(9), 2);
    }

    private static void undoOneToTen() {
        Check.says("n calls (1 to 10) are UNDONE: how many still can be. -3: n, more than can be.");
        SandHold x = new SandHold();
        Check.due("none can be", x.undo(1), -3);
        for (int i = 1; i <= 9; i++) {
            x.moon(i);
        }
        for (int n : WILD) {
            Check.due("undo(" + n + ")", x.undo(n), -3);
        }
        Check.due("undo(0)", x.undo(0), -3);
        Check.due("more than can be", x.undo(10), -3);
        Check.due("11", x.undo(11), -3);
        Check.due("the most", x.undo(Integer.MAX_VALUE), -3);
        Check.due("it is still", x.count(4), 9);
        Check.due("nine can be", x.count(9), 9);
        x.moon(0);
        Check.due("10", x.undo(10), 0);
        Check.due("as at first", x.count(4), 0);
        Check.due("none is left", x.undo(1), -3);
    }

    private static void tenAtMost() {
        Check.says("Calls that did some can be UNDONE each as a whole, the latest first, 10 at most (eldest are forgotten): sand, houses, MOON, MINUTE.");
        SandHold x = new SandHold();
        for (int i = 0; i < 25; i++) {
            x.moon((i + 1) % 10);
            Check.due("how many can be", x.count(9), Math.min(10, i + 1));
        }
        Check.due("11", x.undo(11), -3);
        for (int i = 9; i >= 0; i--) {
            Check.due("one more back", x.undo(1), i);
            Check.due("the latest first", x.count(4), (15 + i) % 10);
        }
        Check.due("the eldest are forgotten", x.undo(1), -3);
        x.raise(0);
        Check.due("undone ones can't be done by undoing", x.undo(1), 0);
        Check.due("MOON", x.count(4), 5);
        wholeCalls();
        eachCallAlone();
        refusedOnesAreNone();
    }

    private static void wholeCalls() {
        SandHold x = Check.with("shore rows 2 columns 2;house 2 owner 0;moon 3;washes:height+1;");
        Check.tray(x, 0, 0, 100, 15, 1034, 0, 203);
        Check.due("six DEEDS", x.perform(0), 6);
        Check.due("houses", x.count(2), 2);
        Check.due("as a whole", x.undo(1), 0);
        Check.due("sand", x.count(6), 2);
        Check.due("houses", x.count(2), 1);
        Check.due("which stand", x.count(3), 1);
        Check.due("MOON", x.count(4), 3);
        Check.due("MINUTE", x.count(5), 0);
        x.minutes(99);
        Check.due("as a whole", x.undo(1), 0);
        Check.due("MINUTE", x.count(5), 0);
        Check.due("which stand", x.count(3), 1);
        Check.dueTrue("a day did some", x.day(4, 40) > 0);
        Check.due("as a whole", x.undo(1), 0);
        Check.due("sand", x.count(6), 2);
        Check.due("houses", x.count(2), 1);
        Check.due("MOON", x.count(4), 3);
        Check.due("MINUTE", x.count(5), 0);
    }

    private static void eachCallAlone() {
        for (int call = 0; call < 7; call++) {
            SandHold x = Check.with("shore rows 2 columns 2;sand 0 4;house 3 owner 1;moon 2;tide:5;washes:height+1;");
            x.raise(2);
            x.moon(3);
            Check.tray(x, 0, 100, 0, 15, 1004);
            switch (call) {
                case 0: x.minutes(2); break;
                case 1: x.raise(0); break;
                case 2: x.dig(0); break;
                case 3: x.build(2, 2); break;
                case 4: x.moon(9); break;
                case 5: x.perform(0); break;
                default: x.day(99, 40); break;
            }
            Check.due("call " + call, x.undo(1), 2);
            int[] counts = {2, 2, 1, 1, 3, 0, 7, 0, 0, 2, 0, 6};
            for (int what = 0; what < counts.length; what++) {
                Check.due("call " + call + " undone: count(" + what + ")", x.count(what), counts[what]);
            }
            Check.due("call " + call + " undone: sand(0)", x.sand(0), 4);
            Check.due("call " + call + " undone: sand(2)", x.sand(2), 2);
        }
    }

    private static void refusedOnesAreNone() {
        SandHold x = Check.with("shore rows 1 columns 2;sand 0 9;sand 1 0;house 0 owner 0;");
        x.raise(0);
        x.dig(1);
        x.build(0, 0);
        x.moon(10);
        x.minutes(0);
        Check.tray(x, 0, 1, 0);
        Check.due("none of the DEEDS", x.perform(0), 0);
        Check.tray(x, 1);
        Check.due("of no DEEDS", x.perform(1), 0);
        x.day(1, 0);
        x.image(0);
        x.lists(0);
        x.judge(0, 0);
        Check.due("calls that did none", x.count(9), 0);
    }

    private static void whyNot(SandHold x, long deed, int why) {
        Check.tray(x, 0, deed);
        Check.due("place of " + deed, x.judge(0, 0), why == 0 ? -1 : 0);
        Check.due("why not " + deed, x.judge(0, 1), why);
    }

    private static void everyDeed() {
        Check.says("DEEDS in a TRAY: 0: a MINUTE; 10 to 19: MOON v - 10; 100 to 199: CELL v - 100 is RAISED; 200 to 299: CELL v - 200 is DUG; 1000 to 1999: in CELL (v - 1000) by 10 OWNER v modulo 10 BUILDS; others: 1.");
        String text = "shore rows 5 columns 5;sand 24 1;";
        long[] others = {Long.MIN_VALUE, Integer.MIN_VALUE, -1000, -10, -1, 1, 2, 9, 20, 21, 99, 300, 301, 999, 2000, 2001, 10000,
            Integer.MAX_VALUE, 1L << 32, 1L << 32 | 10, 1L << 32 | 100, 1L << 32 | 1000, Long.MAX_VALUE};
        SandHold x = Check.with(text);
        for (long v : others) {
            whyNot(x, v, 1);
        }
        x = Check.with(text);
        for (long v : new long[] {125, 126, 199, 225, 226, 299, 1005, 1009, 1245, 1249, 1250, 1251, 1999}) {
            whyNot(x, v, 1);
        }
        for (long v : new long[] {0, 10, 19, 100, 124, 224, 1000, 1004, 1240, 1244}) {
            whyNot(x, v, 0);
        }
        didAs(text, 0, 0, 24, 0, 1, -1);
        didAs(text, 10, 0, 24, 0, 0, -1);
        didAs(text, 19, 9, 24, 0, 0, -1);
        didAs(text, 100, 0, 0, 1, 0, -1);
        didAs(text, 124, 0, 24, 1, 0, -1);
        didAs(text, 224, 0, 24, -1, 0, -1);
        didAs(text, 1000, 0, 24, 0, 0, 0);
        didAs(text, 1244, 0, 24, 0, 0, 244);
    }

    /** What one deed does: the moon, how much higher a cell is, the minute, and 10 times the cell and the owner of its house. */
    private static void didAs(String text, int deed, int moon, int cell, int higher, int minute, int built) {
        SandHold x = Check.with(text);
        int high = x.sand(cell);
        int all = x.count(6);
        Check.tray(x, 0, deed);
        Check.due("did " + deed, x.perform(0), 1);
        Check.due("MOON of " + deed, x.count(4), moon);
        Check.due("sand of " + deed, x.sand(cell), high + higher);
        Check.due("all sand of " + deed, x.count(6), all + higher);
        Check.due("MINUTE of " + deed, x.count(5), minute);
        Check.due("houses of " + deed, x.count(2), built < 0 ? 0 : 1);
        if (built >= 0) {
            Check.due("CELL of " + deed, x.house(0, 0), built / 10);
            Check.due("OWNER of " + deed, x.house(0, 1), built % 10);
        }
    }

    private static void whyNots() {
        Check.says("Why not: 1 no such CELL, OWNER, MOON. 2 it is 9 HIGH (RAISE), 0 (DIG), there are 6 houses, fallen ones too (BUILD). 3 a house stands there (BUILD).");
        SandHold x = Check.with("shore rows 2 columns 3;sand 0 9;sand 1 0;sand 2 8;sand 3 1;house 5 owner 0;");
        whyNot(x, 106, 1);
        whyNot(x, 206, 1);
        whyNot(x, 1060, 1);
        whyNot(x, 1005, 1);
        whyNot(x, 100, 2);
        whyNot(x, 201, 2);
        whyNot(x, 102, 0);
        whyNot(x, 203, 0);
        whyNot(x, 1050, 3);
        whyNot(x, 1055, 1);
        whyNot(x, 1040, 0);
        for (int c = 0; c < 5; c++) {
            x.build(c, 0);
        }
        whyNot(x, 1050, 2);
        whyNot(x, 1060, 1);
        x.minutes(3);
        Check.dueTrue("some fell", x.count(3) != 63);
        whyNot(x, 1010, 2);
    }

    private static void judged() {
        Check.says("DEEDS, judged as if done, what 0: the first place that can't be (NONE), 1: why (0), 2: all sand together then, 3: which houses stand then, as bits. -2: the TRAY, what; -6.");
        SandHold x = Check.with("shore rows 1 columns 3;sand 0 9;house 1 owner 0;washes:3;");
        long[] forty = new long[40];
        java.util.Arrays.fill(forty, 0, 39, 10);
        forty[39] = 300;
        Check.tray(x, 0, forty);
        Check.due("the last of 40", x.judge(0, 0), 39);
        Check.due("why", x.judge(0, 1), 1);
        forty[39] = 0;
        Check.tray(x, 0, forty);
        Check.due("all of 40", x.judge(0, 0), -1);
        Check.due("why", x.judge(0, 1), 0);
        Check.due("sand then", x.judge(0, 2), 15);
        Check.due("houses then", x.judge(0, 3), 0);
        Check.tray(x, 0);
        Check.due("none of none", x.judge(0, 0), -1);
        Check.due("why", x.judge(0, 1), 0);
        Check.due("sand now", x.judge(0, 2), 9);
        Check.due("houses now", x.judge(0, 3), 1);
        Check.tray(x, 0, 100, 0);
        Check.due("the first", x.judge(0, 0), 0);
        Check.due("why", x.judge(0, 1), 2);
        Check.due("sand as far as it went", x.judge(0, 2), 9);
        Check.due("houses as far as it went", x.judge(0, 3), 1);
        for (int v : WILD) {
            Check.due("TRAY " + v, x.judge(v, 0), -2);
            Check.due("what " + v, x.judge(0, v), -2);
            Check.due("what of a MISSING one " + v, x.judge(1, v), -2);
        }
        Check.due("TRAY 4", x.judge(4, 0), -2);
        Check.due("what 4", x.judge(0, 4), -2);
        Check.due("what 4 of a MISSING one", x.judge(3, 4), -2);
        Check.due("MISSING", x.judge(3, 3), -6);
        Check.due("nothing is done", x.count(5), 0);
        Check.due("nothing to undo", x.count(9), 0);
    }

    private static void performed() {
        Check.says("They are done, till one can't be: how many. -2; -6.");
        SandHold x = Check.with("shore rows 1 columns 3;sand 0 8;");
        for (int v : WILD) {
            Check.due("TRAY " + v, x.perform(v), -2);
        }
        Check.due("TRAY 4", x.perform(4), -2);
        Check.due("MISSING", x.perform(0), -6);
        Check.tray(x, 3);
        Check.due("none of none", x.perform(3), 0);
        Check.tray(x, 3, new long[40]);
        Check.due("all of 40", x.perform(3), 40);
        Check.due("40 MINUTES", x.count(5), 40);
        Check.tray(x, 3, 100, 101, 100, 102);
        Check.due("till one can't be", x.perform(3), 2);
        Check.due("what is ahead is done", x.sand(1), 1);
        Check.due("what is behind isn't", x.sand(2), 0);
        Check.due("again: none", x.perform(3), 0);
        Check.due("two that did some", x.count(9), 2);
        Check.due("the TRAY stays", x.judge(3, 0), 0);
    }

    private static void dayTimes() {
        Check.says("A DAY: how many could be. -3: how many times.");
        SandHold x = Check.with("shore rows 5 columns 5;");
        for (int v : WILD) {
            Check.due("times " + v, x.day(1, v), -3);
        }
        Check.due("0 times", x.day(1, 0), -3);
        Check.due("41 times", x.day(1, 41), -3);
        Check.due("the most", x.day(1, Integer.MAX_VALUE), -3);
        Check.due("nothing is done", x.count(5), 0);
        Check.due("nothing to undo", x.count(9), 0);
        Check.dueTrue("once", x.day(1, 1) >= 0);
        Check.dueTrue("40 times", x.day(1, 40) > 0);
    }

    private static void daySeeds() {
        Check.says("A DAY by a SEED (x, an int; a DRAW: x becomes 1103515245 x + 12345, it is x >>> 16)");
        int[] seeds = {Integer.MIN_VALUE, Integer.MAX_VALUE, -1, 0, 1, 65535, 65536, -65536, 0x7fff0000, -12345};
        for (int seed : seeds) {
            SandHold a = Check.with("shore rows 4 columns 5;washes:height+1;sand 0 9;house 3 owner 1;");
            SandHold b = Check.with("shore rows 4 columns 5;washes:height+1;sand 0 9;house 3 owner 1;");
            Check.due("day of " + seed, a.day(seed, 40), byHand(b, seed, 40));
            for (int what = 0; what < 9; what++) {
                Check.due("count(" + what + ") of " + seed, a.count(what), b.count(what));
            }
            for (int c = 0; c < 20; c++) {
                Check.due("sand(" + c + ") of " + seed, a.sand(c), b.sand(c));
            }
        }
    }

    private static void dayDraws() {
        Check.says(": so many times (1 to 40): DRAW modulo 6: 0, 1 a MINUTE; 2 CELL DRAW modulo 25 is RAISED; 3 CELL DRAW modulo 25 is DUG; 4 in CELL DRAW modulo 25 OWNER DRAW modulo 5 BUILDS; 5 MOON DRAW modulo 10;");
        int[] kinds = new int[6];
        for (int seed = 0; seed < 60; seed++) {
            SandHold a = Check.with("shore rows 5 columns 5;sand 0 9;sand 1 0;");
            SandHold b = Check.with("shore rows 5 columns 5;sand 0 9;sand 1 0;");
            Check.due("once by " + seed, a.day(seed, 1), byHand(b, seed, 1));
            for (int what = 2; what < 7; what++) {
                Check.due("count(" + what + ") by " + seed, a.count(what), b.count(what));
            }
            for (int c = 0; c < 25; c++) {
                Check.due("sand(" + c + ") by " + seed, a.sand(c), b.sand(c));
            }
            Check.due("CELL by " + seed, a.house(0, 0), b.house(0, 0));
            Check.due("OWNER by " + seed, a.house(0, 1), b.house(0, 1));
            kinds[(seed * 1103515245 + 12345 >>> 16) % 6]++;
        }
        for (int kind = 0; kind < 6; kind++) {
            Check.dueTrue("kind " + kind + " was drawn", kinds[kind] > 0);
        }
    }

    private static int byHand(SandHold x, int seed, int times) {
        long v = seed & 0xffffffffL;
        int could = 0;
        for (int i = 0; i < times; i++) {
            v = v * 1103515245L + 12345L & 0xffffffffL;
            int kind = (int) (v >> 16) % 6;
            int first = 0;
            int second = 0;
            if (kind > 1) {
                v = v * 1103515245L + 12345L & 0xffffffffL;
                first = (int) (v >> 16) % (kind == 5 ? 10 : 25);
            }
            if (kind == 4) {
                v = v * 1103515245L + 12345L & 0xffffffffL;
                second = (int) (v >> 16) % 5;
            }
            could += didByHand(x, kind, first, second) >= 0 ? 1 : 0;
        }
        return could;
    }

    private static int didByHand(SandHold x, int kind, int first, int second) {
        switch (kind) {
            case 2: return x.raise(first);
            case 3: return x.dig(first);
            case 4: return x.build(first, second);
            case 5: return x.moon(first);
            default: return x.minutes(1);
        }
    }

    private static void dayGoesOn() {
        Check.says("as in a TRAY, if it can be.");
        // in one cell most that is drawn can't be, and what comes behind is done all the same
        int none = 0;
        for (int seed = 0; seed < 200; seed++) {
            SandHold a = new SandHold();
            SandHold b = new SandHold();
            int did = a.day(seed, 12);
            Check.due("day of " + seed, did, byHand(b, seed, 12));
            Check.due("MINUTES of " + seed, a.count(5), b.count(5));
            Check.due("MOON of " + seed, a.count(4), b.count(4));
            Check.due("sand of " + seed, a.sand(0), b.sand(0));
            SandHold c = new SandHold();
            int once = c.day(seed, 1);
            Check.due("UNDONE, if it did some", c.count(9), once);
            none += once == 0 ? 1 : 0;
        }
        Check.dueTrue("some did none, some did", none > 0 && none < 200);
    }

    public static void main(String[] args) {
        minuteIsOneMore();
        levelByALaw();
        levelWithoutALaw();
        wetIfLess();
        housesFall();
        sandByALaw();
        namesInLaws();
        namesInBothLaws();
        keptInBounds();
        ifTellsOne();
        minutesOneTo99();
        raiseToNine();
        digToNone();
        oneMoreOneLess();
        buildSix();
        moonZeroToNine();
        undoOneToTen();
        tenAtMost();
        everyDeed();
        whyNots();
        judged();
        performed();
        dayTimes();
        daySeeds();
        dayDraws();
        dayGoesOn();
        Check.end("EdgeDeedTest");
    }
}
