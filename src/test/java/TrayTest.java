/** Promises 41 to 46: trays, images, counts. */
public final class TrayTest {
    private static void numbersOfASort() {
        SandHold x = new SandHold();
        Check.due("no such TRAY", x.numbers(4, 0, 0), -2);
        Check.due("no such TRAY", x.numbers(-1, 0, 0), -2);
        Check.due("no such sort", x.numbers(0, 4, 0), -2);
        Check.due("no such sort", x.numbers(0, -1, 0), -2);
        Check.due("the sort ahead of n", x.numbers(0, 4, 41), -2);
        Check.due("n", x.numbers(0, 0, 41), -3);
        Check.due("n", x.numbers(0, 0, -1), -3);
        Check.due("still MISSING", x.write(0, 0, 1), -6);
        for (int tray = 0; tray < 4; tray++) {
            for (int sort = 0; sort < 4; sort++) {
                Check.due("numbers", x.numbers(tray, sort, 40), 0);
                Check.due("the last", x.write(tray, 39, 7), 7);
                Check.due("no such number", x.write(tray, 40, 7), -7);
            }
        }
        Check.due("none", x.numbers(1, 2, 0), 0);
        Check.due("no number 0", x.write(1, 0, 7), -7);
        Check.due("but not MISSING", x.lists(1), 0);
        Check.tray(x, 2, 100, 0);
        Check.due("refused: it stays", x.numbers(2, 0, 41), -3);
        Check.due("as it was", x.judge(2, 2), 1);
        Check.due("all 0 in place of another one", x.numbers(2, 3, 3), 0);
        Check.due("three MINUTES", x.perform(2), 3);
        Check.due("three MINUTES", x.count(5), 3);
        Check.due("others stay", x.write(3, 39, 8), 8);
    }

    private static void writeCuts() {
        SandHold x = new SandHold();
        Check.due("no such TRAY", x.write(4, 0, 1), -2);
        Check.due("no such TRAY", x.write(-1, 0, 1), -2);
        Check.due("MISSING", x.write(0, 0, 1), -6);
        Check.due("MISSING ahead of the number", x.write(0, 41, 1), -6);
        x.numbers(0, 0, 2);
        Check.due("-1", x.write(0, -1, 1), -7);
        Check.due("2", x.write(0, 2, 1), -7);
        long[][] cut = {
            {127, 127, 127, 127, 127},
            {128, -128, 128, 128, 128},
            {255, -1, 255, 255, 255},
            {256, 0, 256, 256, 256},
            {-129, 127, -129, -129, -129},
            {32767, -1, 32767, 32767, 32767},
            {32768, 0, -32768, 32768, 32768},
            {65536, 0, 0, 65536, 65536},
            {2147483648L, 0, 0, -2147483648L, 2147483648L},
            {4294967296L, 0, 0, 0, 4294967296L},
            {Long.MAX_VALUE, -1, -1, -1, Long.MAX_VALUE},
            {Long.MIN_VALUE, 0, 0, 0, Long.MIN_VALUE},
        };
        for (int sort = 0; sort < 4; sort++) {
            x.numbers(1, sort, 1);
            for (long[] row : cut) {
                Check.due(row[0] + " of sort " + sort, x.write(1, 0, row[0]), row[1 + sort]);
            }
        }
        // what is cut is what deeds are told by
        x.numbers(1, 0, 1);
        x.write(1, 0, 256);
        Check.due("256 of 8 bits is a MINUTE", x.judge(1, 0), -1);
        x.numbers(1, 0, 1);
        x.write(1, 0, 200);
        Check.due("200 doesn't go into 8 bits", x.judge(1, 1), 1);
        x.numbers(1, 2, 1);
        x.write(1, 0, (1L << 32) + 100);
        Check.due("32 bits: RAISED", x.judge(1, 2), 1);
    }

    private static void listsOfSand() {
        SandHold x = Check.with("shore rows 1 columns 4;sand 0 0;sand 1 0;sand 2 0;sand 3 0;");
        Check.due("no such TRAY", x.lists(4), -2);
        Check.due("no such TRAY", x.lists(-1), -2);
        Check.due("MISSING", x.lists(2), -6);
        Check.tray(x, 2, 100, 101, 102, 103, 104);
        Check.due("four cells, five places", x.lists(2), 4);
        Check.due("four MINUTES, then no cell 4", x.judge(2, 0), 4);
        Check.tray(x, 2, 100, 101);
        Check.due("two places", x.lists(2), 2);
        Check.due("two MINUTES", x.perform(2), 2);
        x.raise(1);
        Check.tray(x, 2, 0, 0, 0, 0);
        x.lists(2);
        Check.due("1 is no deed", x.judge(2, 0), 1);
        SandHold y = Check.with("shore rows 1 columns 5;sand 0 5;sand 1 9;sand 2 1;tide:5;");
        y.numbers(0, 0, 1);
        y.lists(0);
        Check.due("5: level 0 in 5 MINUTES isn't so", y.moons(0), 0);
        SandHold z = Check.with("shore rows 1 columns 1;sand 0 5;tide:if minute=5 then 0 else 1 end;");
        z.numbers(0, 0, 1);
        Check.due("one", z.lists(0), 1);
        Check.due("5: level 0 in 5 MINUTES is so", z.moons(0), 1023);
    }

    private static void images() {
        SandHold x = Check.with("shore rows 2 columns 2;house 3 owner 1;plot 1 minutes 1 worth 2;paper 0 3;owes 0 1 5;moon 3;gale 5;"
            + "tide:moon;washes:height+1;");
        Check.due("none was made", x.restore(0), -5);
        Check.due("no such image", x.restore(2), -2);
        Check.due("no such image", x.restore(-1), -2);
        Check.due("no such image", x.image(2), -2);
        Check.due("no such image", x.image(-1), -2);
        x.minutes(1);
        x.build(3, 2);
        Check.due("image(1)", x.image(1), 0);
        Check.due("making one forgets nothing", x.count(9), 2);
        Check.due("the other wasn't made", x.restore(0), -5);
        x.minutes(2);
        x.moon(5);
        Check.shore(x, "shore rows 5 columns 1;tide:0;");
        x.raise(0);
        Check.due("image(0)", x.image(0), 0);
        x.raise(0);
        Check.due("restore(1)", x.restore(1), 0);
        int[] counts = {2, 2, 2, 2, 3, 1, 6, 1, 1, 0, 0, 9};
        for (int what = 0; what < counts.length; what++) {
            Check.due("restored count(" + what + ")", x.count(what), counts[what]);
        }
        Check.due("its house", x.house(1, 1), 2);
        Check.due("its fallen house", x.house(0, 2), 0);
        Check.due("its plot", x.plot(0, 2), 2);
        Check.due("its paper", x.papers(3), 1);
        Check.due("its debts", x.balance(0), -5);
        Check.due("its tide", x.level(9), 3);
        x.moon(2);
        Check.due("its gale", x.chance(1, 1, 1), 2);
        x.undo(1);
        x.minutes(1);
        Check.due("its washes", x.count(6), 10);
        Check.due("restore(0)", x.restore(0), 0);
        Check.due("rows", x.count(0), 5);
        Check.due("columns", x.count(1), 1);
        Check.due("sand", x.sand(0), 1);
        Check.due("nothing can be undone", x.undo(1), -3);
        Check.due("as often as one likes", x.restore(1), 0);
        Check.due("still as it was", x.count(6), 6);
        Check.due("again", x.image(1), 0);
    }

    private static void imagesLeaveTheRest() {
        SandHold x = new SandHold();
        x.image(0);
        Check.shore(x, "shore rows 9");
        Check.tray(x, 0, 100);
        x.feed(1, 2, 3, 4, 5);
        x.raise(0);
        x.restore(0);
        Check.due("the fault stays", x.fault(0), 3);
        Check.due("the tape stays", x.count(10), 20);
        Check.due("the TRAY stays", x.perform(0), 1);
        Check.due("LINES", x.count(11), 0);
        SandHold y = Check.with("shore rows 1 columns 1;");
        y.image(1);
        y.image(0);
        y.raise(0);
        y.image(0);
        y.restore(1);
        Check.due("the elder one", y.sand(0), 0);
        y.restore(0);
        Check.due("the later one", y.sand(0), 1);
    }

    private static void counts() {
        SandHold x = Check.with("shore rows 3 columns 2;house 0 owner 0;house 1 owner 0;house 5 owner 0;plot 0 minutes 1 worth 1;"
            + "plot 0 minutes 1 worth 1;paper 0 0;moon 4;");
        x.minutes(1);
        x.moon(6);
        x.feed(0, 0, 0, 0, 0);
        int[] counts = {3, 2, 3, 4, 6, 1, 6, 2, 1, 2, 20, 8};
        for (int what = 0; what < counts.length; what++) {
            Check.due("count(" + what + ")", x.count(what), counts[what]);
        }
        Check.due("count(12)", x.count(12), -1);
        Check.due("count(-1)", x.count(-1), -1);
    }

    public static void main(String[] args) {
        numbersOfASort();
        writeCuts();
        listsOfSand();
        images();
        imagesLeaveTheRest();
        counts();
        Check.end("TrayTest");
    }
}
