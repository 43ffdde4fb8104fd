/** Promises 10 to 18: minutes, raising, digging, building, moons, undoing, deeds of trays, days. */
public final class DeedTest {
    private static void minutesGoBy() {
        SandHold x = Check.with("shore rows 3 columns 1;house 0 owner 0;house 1 owner 1;house 2 owner 2;");
        Check.due("minutes(0)", x.minutes(0), -3);
        Check.due("minutes(100)", x.minutes(100), -3);
        Check.due("minutes(-5)", x.minutes(-5), -3);
        Check.due("nothing is done", x.count(5), 0);
        Check.due("nothing to undo", x.count(9), 0);
        Check.due("the first", x.minutes(1), 2);
        Check.due("MINUTE", x.count(5), 1);
        Check.due("house 0 fell", x.count(3), 6);
        Check.due("two more", x.minutes(2), 0);
        Check.due("MINUTE", x.count(5), 3);
        Check.due("fallen ones count", x.count(2), 3);
        Check.due("99 more", x.minutes(99), 0);
        Check.due("MINUTE", x.count(5), 102);
    }

    private static void theSeaWashesAllAtOnce() {
        // near of each cell is told by what was wet, height by what it was, as if no cell were washed yet
        SandHold x = Check.with("shore rows 2 columns 2;sand 0 1;sand 1 2;sand 2 1;sand 3 4;tide:3;washes:height+near*2;");
        x.minutes(1);
        Check.due("cell 0: 1 + 2 * 2", x.sand(0), 5);
        Check.due("cell 1: 2 + 1 * 2", x.sand(1), 4);
        Check.due("cell 2: 1 + 1 * 2", x.sand(2), 3);
        Check.due("cell 3 was dry", x.sand(3), 4);
    }

    private static void whatLawsAreToldOf() {
        SandHold x = Check.with("shore rows 3 columns 1;sand 0 0;sand 1 0;sand 2 0;tide:minute+1;moon 4;"
            + "washes:row*3+level*0;");
        x.minutes(1);
        for (int row = 0; row < 3; row++) {
            Check.due("row " + row, x.sand(row), row * 3);
        }
        x = Check.with("shore rows 1 columns 1;moon 4;washes:moon+minute+level;");
        x.minutes(1);
        Check.due("4 + 1 + 1", x.sand(0), 6);
        x = Check.with("shore rows 1 columns 1;tide:10;washes:height-1;");
        x.minutes(1);
        Check.due("0 at least", x.sand(0), 0);
        x = Check.with("shore rows 1 columns 1;tide:10;washes:11;");
        x.minutes(1);
        Check.due("9 at most", x.sand(0), 9);
        x.minutes(1);
        Check.due("9 is wet at 10", x.sand(0), 9);
        x = Check.with("shore rows 1 columns 1;tide:2;washes:height+1;");
        x.minutes(9);
        Check.due("till it is dry", x.sand(0), 2);
        x = Check.with("shore rows 1 columns 3;sand 1 5;tide:5;washes:9;");
        x.minutes(1);
        Check.due("5 isn't less than 5", x.sand(1), 5);
        Check.due("0 is", x.sand(0), 9);
        // houses fall by how high the sand was ahead of the washing
        x = Check.with("shore rows 1 columns 1;tide:1;washes:9;house 0 owner 0;");
        Check.due("it falls first", x.minutes(1), 0);
        // the MINUTE that begins tells the tide
        x = Check.with("shore rows 1 columns 1;sand 0 0;tide:if minute=1 then 1 else 0 end;house 0 owner 0;");
        Check.due("the first MINUTE is 1", x.minutes(1), 0);
        x = Check.with("shore rows 2 columns 3;tide:9;washes:near;");
        x.minutes(1);
        int[] near = {2, 3, 2, 2, 3, 2};
        for (int c = 0; c < 6; c++) {
            Check.due("near of " + c, x.sand(c), near[c]);
        }
    }

    private static void raisingAndDigging() {
        SandHold x = Check.with("shore rows 1 columns 2;sand 0 8;sand 1 1;house 0 owner 0;");
        Check.due("raise(2)", x.raise(2), -11);
        Check.due("raise(-1)", x.raise(-1), -11);
        Check.due("dig(2)", x.dig(2), -11);
        Check.due("dig(-1)", x.dig(-1), -11);
        Check.due("raise(0)", x.raise(0), 9);
        Check.due("raise(0) at 9", x.raise(0), -12);
        Check.due("it stays 9", x.sand(0), 9);
        Check.due("dig(1)", x.dig(1), 0);
        Check.due("dig(1) at 0", x.dig(1), -12);
        Check.due("it stays 0", x.sand(1), 0);
        Check.due("two can be undone", x.count(9), 2);
        Check.due("no MINUTE goes by", x.count(5), 0);
    }

    private static void building() {
        SandHold x = Check.with("shore rows 2 columns 4;house 4 owner 0;");
        Check.due("no such cell", x.build(8, 0), -11);
        Check.due("no such cell", x.build(-1, 0), -11);
        Check.due("no such owner", x.build(0, 5), -11);
        Check.due("no such owner", x.build(0, -1), -11);
        Check.due("a house stands there", x.build(4, 1), -13);
        Check.due("build(0, 4)", x.build(0, 4), 1);
        Check.due("its cell", x.house(1, 0), 0);
        Check.due("its owner", x.house(1, 1), 4);
        Check.due("it stands", x.house(1, 2), 1);
        x.minutes(1);
        Check.due("it fell", x.count(3), 1);
        Check.due("where one fell", x.build(0, 3), 2);
        Check.due("the fallen one stays fallen", x.house(1, 2), 0);
        Check.due("build(1, 0)", x.build(1, 0), 3);
        Check.due("build(2, 0)", x.build(2, 0), 4);
        Check.due("build(3, 0)", x.build(3, 0), 5);
        Check.due("six, fallen ones too", x.build(5, 0), -12);
        Check.due("six ahead of a house there", x.build(4, 0), -12);
        Check.due("no cell ahead of six", x.build(9, 0), -11);
        Check.due("no owner ahead of six", x.build(5, 5), -11);
        Check.due("houses", x.count(2), 6);
    }

    private static void anotherMoon() {
        SandHold x = Check.with("shore rows 1 columns 1;moon 3;tide:moon;");
        Check.due("moon(10)", x.moon(10), -11);
        Check.due("moon(-1)", x.moon(-1), -11);
        Check.due("moon(9)", x.moon(9), 3);
        Check.due("MOON", x.count(4), 9);
        Check.due("the level follows", x.level(0), 9);
        Check.due("moon(0)", x.moon(0), 9);
        Check.due("the same again is a call that did some", x.moon(0), 0);
        Check.due("three can be undone", x.count(9), 3);
    }

    private static void undoing() {
        SandHold x = Check.with("shore rows 1 columns 2;house 0 owner 0;washes:height+2;moon 2;");
        Check.due("nothing to undo", x.undo(1), -3);
        x.minutes(1);
        x.moon(5);
        x.raise(1);
        x.build(0, 3);
        Check.due("undo(0)", x.undo(0), -3);
        Check.due("undo(-1)", x.undo(-1), -3);
        Check.due("undo(11)", x.undo(11), -3);
        Check.due("more than can be", x.undo(5), -3);
        Check.due("four can be", x.count(9), 4);
        Check.due("undo(1)", x.undo(1), 3);
        Check.due("the house is gone", x.count(2), 1);
        Check.due("undo(1)", x.undo(1), 2);
        Check.due("the sand is back", x.sand(1), 2);
        Check.due("undo(2)", x.undo(2), 0);
        Check.due("MOON", x.count(4), 2);
        Check.due("MINUTE", x.count(5), 0);
        Check.due("the house stands again", x.count(3), 1);
        Check.due("as it was", x.sand(0), 0);
        for (int i = 0; i < 12; i++) {
            x.moon(i % 10);
        }
        Check.due("ten at most", x.count(9), 10);
        Check.due("eleven can't be", x.undo(11), -3);
        Check.due("a refused call forgets none", x.raise(2), -11);
        Check.due("undo(10)", x.undo(10), 0);
        Check.due("the two eldest are forgotten", x.count(4), 1);
        x.raise(0);
        x.dig(0);
        x.dig(1);
        Check.due("dig was refused", x.count(9), 2);
        Check.due("undo(2)", x.undo(2), 0);
    }

    private static void eachCallIsUndone() {
        SandHold x = Check.with("shore rows 2 columns 2;sand 0 4;house 3 owner 1;washes:height+1;moon 2;tide:5;");
        for (int call = 0; call < 7; call++) {
            x.raise(1);
            int[] before = {x.count(2), x.count(3), x.count(4), x.count(5), x.sand(0), x.sand(1), x.sand(2), x.sand(3), x.count(9)};
            Check.tray(x, 0, 100, 0, 15, 1004);
            switch (call) {
                case 0: x.minutes(2); break;
                case 1: x.raise(0); break;
                case 2: x.dig(0); break;
                case 3: x.build(2, 2); break;
                case 4: x.moon(9); break;
                case 5: x.perform(0); break;
                default: x.day(99, 40); break;
            }
            Check.due("one more of call " + call, x.count(9), before[8] + 1);
            Check.due("undone: call " + call, x.undo(1), before[8]);
            int[] after = {x.count(2), x.count(3), x.count(4), x.count(5), x.sand(0), x.sand(1), x.sand(2), x.sand(3), x.count(9)};
            for (int i = 0; i < before.length; i++) {
                Check.due("call " + call + " undone, " + i, after[i], before[i]);
            }
        }
    }

    private static void judging() {
        SandHold x = Check.with("shore rows 2 columns 2;house 3 owner 1;washes:height+1;");
        Check.due("MISSING", x.judge(1, 0), -6);
        Check.due("no such TRAY", x.judge(4, 0), -2);
        Check.due("no such TRAY", x.judge(-1, 0), -2);
        Check.due("what ahead of MISSING", x.judge(1, 4), -2);
        Check.due("what ahead of MISSING", x.judge(1, -1), -2);
        Check.tray(x, 0, 0, 101, 200, 1012, 1013, 103);
        Check.due("the first that can't be", x.judge(0, 0), 4);
        Check.due("why: a house stands there", x.judge(0, 1), 3);
        Check.due("sand then", x.judge(0, 2), 4);
        Check.due("houses then", x.judge(0, 3), 3);
        Check.due("nothing is done", x.count(5), 0);
        Check.due("nothing is done", x.count(6), 2);
        Check.due("nothing is done", x.count(2), 1);
        Check.due("nothing to undo", x.count(9), 0);
        Check.tray(x, 0, 19, 10, 0);
        Check.due("all can be", x.judge(0, 0), -1);
        Check.due("why", x.judge(0, 1), 0);
        Check.due("sand", x.judge(0, 2), 4);
        Check.tray(x, 0);
        Check.due("none: all can be", x.judge(0, 0), -1);
        Check.due("why", x.judge(0, 1), 0);
        Check.due("sand", x.judge(0, 2), 2);
        Check.due("houses", x.judge(0, 3), 1);
    }

    private static void why(SandHold x, long deed, int want) {
        Check.tray(x, 2, deed);
        Check.due("why not " + deed, x.judge(2, 1), want);
        Check.due("place of " + deed, x.judge(2, 0), want == 0 ? -1 : 0);
    }

    private static void everyDeed() {
        SandHold x = Check.with("shore rows 5 columns 5;sand 0 9;sand 1 0;house 24 owner 4;");
        long[] none = {-1, 1, 9, 20, 99, 125, 199, 225, 299, 300, 999, 1005, 1009, 1250, 1999, 2000,
            Long.MIN_VALUE, Long.MAX_VALUE, 1L << 32, (1L << 32) + 101, (1L << 40) + 10};
        for (long v : none) {
            why(x, v, 1);
        }
        long[] good = {0, 10, 19, 101, 124, 200, 202 + 3, 224, 1000, 1004, 1014, 1234};
        for (long v : good) {
            why(x, v, 0);
        }
        why(x, 100, 2);
        why(x, 201, 2);
        why(x, 1244, 3);
        why(x, 1240, 3);
        for (int i = 0; i < 5; i++) {
            x.build(i, 0);
        }
        why(x, 1100, 2);
        why(x, 1244, 2);
        why(x, 1245, 1);
    }

    private static void performing() {
        SandHold x = Check.with("shore rows 2 columns 2;house 3 owner 1;washes:height+1;");
        Check.due("MISSING", x.perform(0), -6);
        Check.due("no such TRAY", x.perform(4), -2);
        Check.due("no such TRAY", x.perform(-1), -2);
        Check.tray(x, 3, 0, 101, 200, 1012, 1013, 103);
        Check.due("till one can't be", x.perform(3), 4);
        Check.due("sand", x.count(6), 4);
        Check.due("MINUTE", x.count(5), 1);
        Check.due("houses", x.count(2), 2);
        Check.due("its owner", x.house(1, 1), 2);
        Check.due("as a whole", x.count(9), 1);
        Check.tray(x, 3, 300);
        Check.due("none", x.perform(3), 0);
        Check.tray(x, 3);
        Check.due("nor of none", x.perform(3), 0);
        Check.due("calls that did none can't be undone", x.count(9), 1);
        Check.due("undo(1)", x.undo(1), 0);
        Check.due("sand", x.count(6), 2);
        Check.due("MINUTE", x.count(5), 0);
        Check.due("houses", x.count(2), 1);
        Check.tray(x, 1, 17);
        Check.due("a moon", x.perform(1), 1);
        Check.due("MOON", x.count(4), 7);
    }

    private static void days() {
        SandHold x = Check.with("shore rows 5 columns 5;");
        Check.due("0 times", x.day(1, 0), -3);
        Check.due("41 times", x.day(1, 41), -3);
        Check.due("-1 times", x.day(1, -1), -3);
        Check.due("nothing to undo", x.count(9), 0);
        // each day's draws, told by hand: x becomes 1103515245 x + 12345, a DRAW is x >>> 16
        int seed = 12345;
        for (int times = 1; times <= 40; times++) {
            int[] draws = new int[3 * times];
            int v = seed + times;
            for (int i = 0; i < draws.length; i++) {
                v = v * 1103515245 + 12345;
                draws[i] = v >>> 16;
            }
            SandHold a = Check.with("shore rows 5 columns 4;washes:height+1;");
            SandHold b = Check.with("shore rows 5 columns 4;washes:height+1;");
            int at = 0;
            int could = 0;
            for (int i = 0; i < times; i++) {
                int answer;
                switch (draws[at++] % 6) {
                    case 2: answer = b.raise(draws[at++] % 25); break;
                    case 3: answer = b.dig(draws[at++] % 25); break;
                    case 4: answer = b.build(draws[at] % 25, draws[at + 1] % 5); at += 2; break;
                    case 5: answer = b.moon(draws[at++] % 10); break;
                    default: answer = b.minutes(1); break;
                }
                if (answer >= 0) {
                    could++;
                }
            }
            Check.due("day of " + times, a.day(seed + times, times), could);
            for (int what = 0; what < 9; what++) {
                Check.due("its count(" + what + ")", a.count(what), b.count(what));
            }
            for (int c = 0; c < 20; c++) {
                Check.due("its sand", a.sand(c), b.sand(c));
            }
            Check.due("undone as a whole", a.count(9), could > 0 ? 1 : 0);
        }
        SandHold one = new SandHold();
        int none = 0;
        for (int s = 0; s < 60; s++) {
            int before = one.count(9);
            int did = one.day(s, 1);
            Check.due("a day that did none can't be undone", one.count(9), did == 0 ? before : Math.min(10, before + 1));
            none += did == 0 ? 1 : 0;
        }
        Check.dueTrue("some did none", none > 0);
    }

    public static void main(String[] args) {
        minutesGoBy();
        theSeaWashesAllAtOnce();
        whatLawsAreToldOf();
        raisingAndDigging();
        building();
        anotherMoon();
        undoing();
        eachCallIsUndone();
        judging();
        everyDeed();
        performing();
        days();
        Check.end("DeedTest");
    }
}
