/** Trays and images, promises 41 to 46: each sentence that names a boundary case, by a test of its own. */
public final class EdgeTrayTest {
    private static final int[] WILD = {Integer.MIN_VALUE, -1000, -2, -1, 1000, Integer.MAX_VALUE};

    private static void traysAtFirst() {
        Check.says("TRAYS 0 to 3 are MISSING at first, or have 0 to 40 numbers of 8 bits (sort 0), 16 (1), 32 (2), 64 (3).");
        SandHold x = new SandHold();
        for (int t = 0; t < 4; t++) {
            Check.due("write", x.write(t, 0, 1), -6);
            Check.due("lists", x.lists(t), -6);
            Check.due("judge", x.judge(t, 0), -6);
            Check.due("perform", x.perform(t), -6);
            Check.due("moons", x.moons(t), -6);
            Check.due("look", x.look(t), -6);
        }
        for (int t = 0; t < 4; t++) {
            Check.due("no numbers", x.numbers(t, t, 0), 0);
            Check.due("it isn't MISSING", x.write(t, 0, 1), -7);
            Check.due("40 numbers", x.numbers(t, t, 40), 0);
            Check.due("the first", x.write(t, 0, 1), 1);
            Check.due("the last", x.write(t, 39, 1), 1);
            Check.due("no more", x.write(t, 40, 1), -7);
        }
        long[][] bits = {{127, -128}, {32767, -32768}, {2147483647, -2147483648}, {Long.MAX_VALUE, Long.MIN_VALUE}};
        for (int sort = 0; sort < 4; sort++) {
            x.numbers(0, sort, 1);
            Check.due("the greatest of sort " + sort, x.write(0, 0, bits[sort][0]), bits[sort][0]);
            Check.due("the least of sort " + sort, x.write(0, 0, bits[sort][1]), bits[sort][1]);
            Check.due("one above is cut", x.write(0, 0, bits[sort][0] + 1), bits[sort][1]);
            Check.due("one below is cut", x.write(0, 0, bits[sort][1] - 1), bits[sort][0]);
            Check.due("-1", x.write(0, 0, -1), -1);
        }
    }

    private static void numbersAnew() {
        Check.says("A TRAY has n numbers of a sort, all 0 (in place of another one): 0. -2: no such TRAY, sort; -3, and the TRAY stays: n is below 0 or above 40.");
        SandHold x = new SandHold();
        for (int v : WILD) {
            Check.due("TRAY " + v, x.numbers(v, 0, 1), -2);
            Check.due("sort " + v, x.numbers(0, v, 1), -2);
            Check.due("n " + v, x.numbers(0, 0, v), -3);
            Check.due("TRAY ahead of n", x.numbers(4, 0, v), -2);
            Check.due("sort ahead of n", x.numbers(0, 4, v), -2);
        }
        Check.due("TRAY 4", x.numbers(4, 0, 1), -2);
        Check.due("sort 4", x.numbers(0, 4, 1), -2);
        Check.due("n 41", x.numbers(0, 0, 41), -3);
        Check.due("still MISSING", x.write(0, 0, 1), -6);
        Check.tray(x, 0, 100, 100, 100);
        x.numbers(0, 0, 41);
        x.numbers(0, 0, -1);
        x.numbers(0, 4, 1);
        Check.due("the TRAY stays", x.judge(0, 2), 3);
        Check.due("its sort stays", x.write(0, 0, 1L << 40), 1L << 40);
        Check.due("in place of it", x.numbers(0, 1, 40), 0);
        Check.due("all 0: 40 MINUTES", x.perform(0), 40);
        Check.due("of the new sort", x.write(0, 0, 32768), -32768);
        x.numbers(0, 3, 40);
        Check.due("all 0 again", x.judge(0, 0), -1);
        x.write(0, 39, 1);
        x.numbers(0, 3, 2);
        x.numbers(0, 3, 40);
        Check.due("all 0, those behind too", x.judge(0, 0), -1);
    }

    private static void writeRefused() {
        Check.says("Number i of a TRAY is v, cut to its sort: as it is there. -2: no such TRAY; -6; -7.");
        SandHold x = new SandHold();
        x.numbers(2, 3, 3);
        for (int v : WILD) {
            Check.due("TRAY " + v, x.write(v, 0, 5), -2);
            Check.due("number " + v, x.write(2, v, 5), -7);
            Check.due("TRAY ahead of the number", x.write(4, v, 5), -2);
            Check.due("MISSING ahead of the number", x.write(3, v, 5), -6);
        }
        Check.due("TRAY 4", x.write(4, 0, 5), -2);
        Check.due("number 3", x.write(2, 3, 5), -7);
        Check.due("all are 0 still", x.judge(2, 0), -1);
        Check.due("number 2", x.write(2, 2, 5), 5);
        Check.due("it is there", x.judge(2, 0), 2);
        Check.due("over it", x.write(2, 2, 0), 0);
        Check.due("it is there", x.judge(2, 0), -1);
        // what is cut is what the other calls see
        x.numbers(1, 0, 1);
        Check.due("256 is cut to 0", x.write(1, 0, 256), 0);
        Check.due("a MINUTE", x.perform(1), 1);
        Check.due("266 is cut to 10", x.write(1, 0, 266), 10);
        Check.due("MOON 0", x.judge(1, 0), -1);
        x.numbers(1, 1, 1);
        Check.due("65636 is cut to 100", x.write(1, 0, 65636), 100);
        Check.due("RAISED", x.judge(1, 2), 1);
    }

    private static void listsAsFar() {
        Check.says("How HIGH CELLS are, one behind the other, comes into a TRAY, as far as it has places: how many. -2: the TRAY; -6.");
        SandHold x = Check.with("shore rows 5 columns 5;");
        for (int v : WILD) {
            Check.due("TRAY " + v, x.lists(v), -2);
        }
        Check.due("TRAY 4", x.lists(4), -2);
        Check.due("MISSING", x.lists(3), -6);
        int[] places = {0, 1, 24, 25, 26, 40};
        int[] come = {0, 1, 24, 25, 25, 25};
        for (int i = 0; i < places.length; i++) {
            for (int sort = 0; sort < 4; sort++) {
                x.numbers(0, sort, places[i]);
                Check.due("into " + places[i], x.lists(0), come[i]);
            }
        }
        Check.due("nothing to undo", x.count(9), 0);
        // a cell 0 high is a MINUTE as a DEED, one 9 high is none
        SandHold y = Check.with("shore rows 1 columns 4;sand 2 9;tide:0;");
        Check.tray(y, 0, 300, 300, 300, 300, 300);
        Check.due("four", y.lists(0), 4);
        Check.due("9 came to place 2", y.judge(0, 0), 2);
        y.dig(2);
        y.write(0, 2, 0);
        Check.due("0 came to places 0, 1, 3; 4 is as it was", y.judge(0, 0), 4);
        for (int i = 0; i < 8; i++) {
            y.dig(2);
        }
        y.raise(3);
        Check.due("as HIGH as now", y.lists(0), 4);
        Check.due("1 came to place 3", y.judge(0, 0), 3);
    }

    private static void imageNumbers() {
        Check.says("IMAGES 0 to 1: THE SHORE and what a call could bring back by UNDOING; nothing can be UNDONE behind (none at first).");
        SandHold x = new SandHold();
        Check.due("none at first", x.restore(0), -5);
        Check.due("none at first", x.restore(1), -5);
        for (int v : WILD) {
            Check.due("image(" + v + ")", x.image(v), -2);
            Check.due("restore(" + v + ")", x.restore(v), -2);
        }
        Check.due("image(2)", x.image(2), -2);
        Check.due("restore(2)", x.restore(2), -2);
        Check.due("none was made by these", x.restore(0), -5);
        x.moon(3);
        Check.due("image(0)", x.image(0), 0);
        Check.due("the other wasn't made", x.restore(1), -5);
        x.moon(4);
        Check.due("restore(0)", x.restore(0), 0);
        Check.due("MOON", x.count(4), 3);
        Check.due("nothing can be UNDONE", x.undo(1), -3);
        Check.due("none", x.count(9), 0);
        x.moon(5);
        Check.due("what is done behind can be", x.undo(1), 0);
        Check.due("MOON", x.count(4), 3);
    }

    private static void imageOfAll() {
        Check.says("An IMAGE is made: 0. -2.");
        SandHold x = Check.with("shore rows 5 columns 5;sand 24 9;house 24 owner 4;house 0 owner 3;plot 24 minutes 9 worth 9;paper 0 24;owes 0 4 99;moon 9;gale 10;"
            + "tide:moon;washes:height;");
        x.minutes(99);
        x.moon(1);
        x.image(0);
        Check.due("what can be UNDONE still can be", x.count(9), 2);
        Check.due("it can", x.undo(1), 1);
        Check.due("MOON", x.count(4), 9);
        x.image(1);
        Check.shore(x, "shore rows 1 columns 1;");
        x.restore(0);
        int[] counts = {5, 5, 2, 1, 1, 99, 55, 1, 1, 0, 0, 11};
        for (int what = 0; what < counts.length; what++) {
            Check.due("count(" + what + ")", x.count(what), counts[what]);
        }
        Check.due("sand", x.sand(24), 9);
        Check.due("house", x.house(0, 1), 4);
        Check.due("plot", x.plot(0, 1), 9);
        Check.due("paper", x.papers(24), 1);
        Check.due("debts", x.balance(4), 99);
        Check.due("tide", x.level(0), 1);
        x.restore(1);
        Check.due("the other one's MOON", x.count(4), 9);
        Check.due("gale", x.chance(0, 1, 0), 0);
        x.dig(24);
        x.image(1);
        x.restore(0);
        x.restore(1);
        Check.due("a later one in its place", x.sand(24), 8);
    }

    private static void restoreAsOften() {
        Check.says("All that is in an IMAGE is as it was: 0. -2; -5: none was made.");
        SandHold x = Check.with("shore rows 1 columns 2;house 1 owner 0;");
        x.image(1);
        for (int i = 0; i < 3; i++) {
            x.minutes(2);
            x.build(0, 0);
            Check.due("restore(1)", x.restore(1), 0);
            Check.due("MINUTE", x.count(5), 0);
            Check.due("houses", x.count(2), 1);
            Check.due("they stand", x.count(3), 1);
        }
        Check.due("none was made", x.restore(0), -5);
        x.minutes(1);
        x.restore(0);
        Check.due("a refused one leaves what can be UNDONE", x.count(9), 1);
        SandHold y = new SandHold();
        y.image(0);
        Check.shore(y, "shore rows 1 columns 1;moon 5;");
        y.feed(0x20202020, 0x20202020, 0x20202020, 0x20202020, 0x20202020);
        Check.tray(y, 0, 100, 100);
        y.restore(0);
        Check.due("a new object's MOON", y.count(4), 0);
        Check.due("a new object's LINES", y.count(11), 0);
        Check.due("THE TAPE isn't in it", y.count(10), 20);
        Check.due("TRAYS aren't in it", y.judge(0, 2), 2);
    }

    private static void countWhat() {
        Check.says("0 rows, 1 columns, 2 houses, fallen ones, too, 3 which stand, as bits, 4 MOON, 5 MINUTE, 6 all sand together, 7 PLOTS, 8 PAPERS, 9 calls that can be UNDONE, 10 bytes on THE TAPE, 11 LINES. NONE for others.");
        SandHold x = Check.with("shore rows 5 columns 4;" + "plot 0 minutes 1 worth 1;".repeat(6) + "paper 0 0;".repeat(6) + "moon 9;house 0 owner 0;house 19 owner 0;");
        x.minutes(1);
        x.raise(19);
        x.build(0, 1);
        x.feed(0, 0, 0, 0, 0);
        int[] counts = {5, 4, 3, 6, 9, 1, 41, 6, 6, 3, 20, 16};
        for (int what = 0; what < counts.length; what++) {
            Check.due("count(" + what + ")", x.count(what), counts[what]);
        }
        Check.due("count(12)", x.count(12), -1);
        for (int v : WILD) {
            Check.due("count(" + v + ")", x.count(v), -1);
        }
        SandHold y = Check.with("shore rows 5 columns 5;tide:10;washes:9;");
        y.minutes(1);
        Check.due("all the sand there can be", y.count(6), 225);
        Check.shore(y, "shore rows 1 columns 1;");
        Check.due("of the CELLS there are", y.count(6), 0);
    }

    public static void main(String[] args) {
        traysAtFirst();
        numbersAnew();
        writeRefused();
        listsAsFar();
        imageNumbers();
        imageOfAll();
        restoreAsOften();
        countWhat();
        Check.end("EdgeTrayTest");
    }
}
