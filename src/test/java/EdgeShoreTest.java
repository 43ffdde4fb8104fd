/** Promises 1 to 9: each sentence that names a boundary case, by a test of its own. */
public final class EdgeShoreTest {
    private static final String HEAD = "shore rows 2 columns 2;";
    private static final int BLANKS = 0x20202020;

    private static int blanks(SandHold x) {
        return x.feed(BLANKS, BLANKS, BLANKS, BLANKS, BLANKS);
    }

    private static void counts(String what, SandHold x, int... due) {
        for (int i = 0; i < due.length; i++) {
            Check.due(what + ": count(" + i + ")", x.count(i), due[i]);
        }
    }

    private static void aNewObject() {
        Check.says("`SandHold()`: 1 CELL, 0 HIGH, no houses.");
        SandHold x = new SandHold();
        counts("new", x, 1, 1, 0, 0, 0, 0, 0, 0, 0, 0, 0, 0);
        Check.due("0 HIGH", x.sand(0), 0);
        Check.due("1 CELL", x.sand(1), -2);
        Check.due("no house", x.house(0, 2), -2);
        Check.due("no plot", x.plot(0, 0), -2);
        Check.due("nothing to undo", x.undo(1), -3);
        Check.due("no IMAGE", x.restore(0), -5);
        Check.due("no IMAGE", x.restore(1), -5);
        for (int t = 0; t < 4; t++) {
            Check.due("TRAY " + t + " is MISSING", x.lists(t), -6);
        }
        Check.due("the only CELL is taken", x.build(0, 4), 0);
    }

    private static void none() {
        Check.says("The constants: `NONE = -1`: There is none.");
        Check.due("NONE", SandHold.NONE, -1);
        Check.due("fault(1)", new SandHold().fault(1), SandHold.NONE);
        Check.due("last()", new SandHold().last(), SandHold.NONE);
        Check.due("count(12)", new SandHold().count(12), SandHold.NONE);
    }

    private static void oneObjectIsNotAnother() {
        Check.says("`SandHold()`: 1 CELL, 0 HIGH, no houses.");
        SandHold x = Check.with(HEAD + "house 0 owner 0;moon 5;");
        x.numbers(0, 0, 1);
        x.image(0);
        x.raise(0);
        blanks(x);
        SandHold y = new SandHold();
        counts("another", y, 1, 1, 0, 0, 0, 0, 0, 0, 0, 0, 0, 0);
        Check.due("its TRAY", y.lists(0), -6);
        Check.due("its IMAGE", y.restore(0), -5);
        y.moon(9);
        Check.due("the first one's MOON", x.count(4), 5);
    }

    private static void used512Times() {
        Check.says("An object is used for at most 512 calls after it has been made;");
        SandHold x = new SandHold();
        for (int i = 0; i < 510; i++) {
            Check.due("minutes of call " + (i + 1), x.minutes(99), 0);
        }
        Check.due("the 511th", x.count(9), 10);
        Check.due("the 512th", x.count(5), 50490);
        SandHold y = Check.with("shore rows 1 columns 1;tide:if minute=999*50+46 then 5 else 0 end;");
        for (int i = 0; i < 505; i++) {
            y.minutes(99);
        }
        Check.due("the MINUTES so far", y.count(5), 49995);
        Check.due("so late a MINUTE is told in full", y.when(0), 1);
    }

    private static void feedTwenty() {
        Check.says("Twenty bytes come behind those on THE TAPE, the highest of each int first: how many it has.");
        SandHold x = new SandHold();
        // "shore rows 1 columns" " 5;moon 9;" and bytes 0x80 and above, which aren't read
        Check.due("the first twenty", x.feed(0x73686f72, 0x6520726f, 0x77732031, 0x20636f6c, 0x756d6e73), 20);
        Check.due("twenty more", x.feed(0x20353b6d, 0x6f6f6e20, 0x393bffff, 0x80ffffff, -1), 40);
        Check.due("how many", x.count(10), 40);
        Check.due("30 of them", x.shore(30), 2);
        Check.due("columns", x.count(1), 5);
        Check.due("MOON", x.count(4), 9);
        int[] each = {0, 1, 2, 3, 4};
        for (int i : each) {
            SandHold y = new SandHold();
            int[] five = {BLANKS, BLANKS, BLANKS, BLANKS, BLANKS};
            five[i] = 0x202020ff;
            y.feed(five[0], five[1], five[2], five[3], five[4]);
            y.shore(20);
            Check.due("the lowest byte of int " + i, y.fault(1), 4 * i + 3);
            SandHold z = new SandHold();
            five[i] = 0x80000000 | 0x202020;
            z.feed(five[0], five[1], five[2], five[3], five[4]);
            z.shore(20);
            Check.due("the highest byte of int " + i, z.fault(1), 4 * i);
            Check.due("no TOKEN begins so", z.fault(0), 1);
        }
    }

    private static void feedFull() {
        Check.says("-5: it would have more than 900.");
        SandHold x = new SandHold();
        String text = HEAD + " ".repeat(870) + "moon 7;";
        Check.feed(x, text.substring(0, 880));
        Check.due("880", x.count(10), 880);
        byte[] last = Check.padded(text.substring(880));
        Check.due("900", x.feed(Check.four(last, 0), Check.four(last, 4), Check.four(last, 8), Check.four(last, 12), Check.four(last, 16)), 900);
        Check.due("full", x.feed(-1, -1, -1, -1, -1), -5);
        Check.due("full again", x.feed(0, 0, 0, 0, 0), -5);
        Check.due("it still has", x.count(10), 900);
        Check.due("its bytes are as they were", x.shore(900), 2);
        Check.due("MOON", x.count(4), 7);
        Check.due("empty again", blanks(x), 20);
    }

    private static void shoreBegins() {
        Check.says("The first n bytes of THE TAPE (which is empty then) are THE SHORE, MINUTE is 0, all houses stand, nothing can be UNDONE: how many LINES (shore, too;");
        SandHold x = Check.with(HEAD + "house 0 owner 0;plot 0 minutes 1 worth 1;paper 0 0;owes 0 1 5;gale 3;tide:9;washes:9;moon 3;");
        x.minutes(5);
        x.raise(3);
        Check.feed(x, "shore rows 1 columns 3;house 2 owner 1;house 1 owner 1;moon 9;");
        Check.due("what is behind n isn't read", x.shore(55), 3);
        counts("anew", x, 1, 3, 2, 3, 0, 0, 0, 0, 0, 0, 0, 3);
        Check.due("the tide is the plain one", x.level(5), 5);
        Check.due("nothing to undo", x.undo(1), -3);
        Check.due("no debts", x.balance(0), 0);
        Check.due("no paper", x.papers(0), 0);
        Check.due("no washes", x.worn(0, 3), 0);
        x.raise(2);
        Check.due("no gale", x.chance(0, 1, 0), 1);
    }

    private static void shoreOfNoBytes() {
        Check.says("-3: n is below 0 or above what there is (THE TAPE stays); -30 less the FAULT.");
        SandHold x = Check.with(HEAD + "moon 2;");
        Check.due("below 0", x.shore(-1), -3);
        Check.due("far below 0", x.shore(Integer.MIN_VALUE), -3);
        Check.due("above none", x.shore(1), -3);
        Check.due("far above", x.shore(Integer.MAX_VALUE), -3);
        Check.due("0 of none: the end", x.shore(0), -32);
        Check.due("its place", x.fault(1), 0);
        Check.feed(x, "shore rows 1 columns 1;");
        Check.due("one above what there is", x.shore(41), -3);
        Check.due("below 0", x.shore(-1), -3);
        Check.due("THE TAPE stays", x.count(10), 40);
        Check.due("and all else", x.count(4), 2);
        Check.due("fault() is of the latest that was read", x.fault(0), 2);
        Check.due("all there is", x.shore(40), 1);
        Check.due("THE TAPE is empty", x.count(10), 0);
        Check.feed(x, "shore rows 1 columns 1;");
        Check.due("0 of some", x.shore(0), -32);
        Check.due("THE TAPE is empty", x.count(10), 0);
        Check.due("so there is none", x.shore(1), -3);
    }

    private static void shoreWithAFault() {
        Check.says("all stays with a FAULT).");
        String[] faulty = {"shore rows 1 columns 1;?", "shore rows 1 columns 1;house 0 owner 0;zzz", "shore rows 1 columns 9;",
            "shore rows 1 columns 1;" + "paper 0 0;".repeat(7)};
        for (int kind = 1; kind <= 4; kind++) {
            SandHold x = Check.with("shore rows 2 columns 3;house 4 owner 2;house 0 owner 1;plot 3 minutes 2 worth 3;paper 0 4;owes 0 1 5;moon 3;"
                + "gale 5;tide:moon;washes:height+1;");
            x.minutes(1);
            x.raise(5);
            Check.due("kind " + kind, Check.shore(x, faulty[kind - 1]), -30 - kind);
            Check.due("fault(0)", x.fault(0), kind);
            counts("all stays", x, 2, 3, 2, 0, 3, 1, 10, 1, 1, 2, 0, 10);
            Check.due("the tide", x.level(1), 3);
            Check.due("the washes", x.worn(0, 1), 2);
            Check.due("the debts", x.balance(1), 5);
            Check.due("the paper", x.papers(1), 1);
            Check.due("the plot", x.plot(0, 1), 2);
            Check.due("the gale", x.chance(0, 1, 0), 0);
            Check.due("can be UNDONE", x.undo(2), 0);
            Check.due("houses as they were", x.count(3), 3);
            Check.due("sand as it was", x.count(6), 3);
        }
    }

    private static void faultOfTheLatest() {
        Check.says("Of the latest shore() that was read, what 0: its FAULT (0), 1: its place (NONE). NONE for others.");
        SandHold x = new SandHold();
        Check.due("none was read", x.fault(0), 0);
        Check.due("no place", x.fault(1), -1);
        Check.shore(x, HEAD + "moon 10;");
        Check.due("its FAULT", x.fault(0), 3);
        Check.due("its place", x.fault(1), 28);
        x.shore(1);
        x.raise(0);
        x.image(0);
        x.restore(0);
        Check.due("it stays", x.fault(0), 3);
        Check.due("its place stays", x.fault(1), 28);
        Check.shore(x, "?");
        Check.due("the latest", x.fault(0), 1);
        Check.due("its place is 0", x.fault(1), 0);
        Check.shore(x, HEAD);
        Check.due("no FAULT", x.fault(0), 0);
        Check.due("no place", x.fault(1), -1);
        for (int what : new int[] {-1, 2, 3, Integer.MIN_VALUE, Integer.MAX_VALUE}) {
            Check.due("fault(" + what + ")", x.fault(what), -1);
        }
    }

    private static void sandOfACell() {
        Check.says("How HIGH a CELL is. -2.");
        SandHold x = Check.with("shore rows 5 columns 5;sand 24 9;sand 0 0;");
        Check.due("the first", x.sand(0), 0);
        Check.due("the last", x.sand(24), 9);
        for (int c : new int[] {-1, 25, 26, 32, 1000, Integer.MIN_VALUE, Integer.MAX_VALUE}) {
            Check.due("sand(" + c + ")", x.sand(c), -2);
        }
        Check.shore(x, "shore rows 1 columns 2;");
        Check.due("the last of a smaller shore", x.sand(1), 0);
        Check.due("behind it", x.sand(2), -2);
    }

    private static void houseWhat() {
        Check.says("Of a house, what 0: CELL, 1: OWNER, 2: 1 if it stands, else 0. -2.");
        SandHold x = Check.with("shore rows 5 columns 5;house 24 owner 4;house 0 owner 0;");
        Check.due("CELL", x.house(0, 0), 24);
        Check.due("OWNER", x.house(0, 1), 4);
        Check.due("it stands", x.house(0, 2), 1);
        x.minutes(1);
        Check.due("it fell", x.house(1, 2), 0);
        Check.due("a fallen one's CELL", x.house(1, 0), 0);
        Check.due("a fallen one's OWNER", x.house(1, 1), 0);
        for (int v : new int[] {-1, Integer.MIN_VALUE, Integer.MAX_VALUE}) {
            Check.due("house " + v, x.house(v, 0), -2);
            Check.due("what " + v, x.house(0, v), -2);
        }
        Check.due("house 2", x.house(2, 0), -2);
        Check.due("what 3", x.house(0, 3), -2);
        x.build(1, 1);
        Check.due("house 2 is there", x.house(2, 0), 1);
        x.undo(1);
        Check.due("and is not", x.house(2, 0), -2);
    }

    private static void plotWhat() {
        Check.says("Of a PLOT, what 0: CELL, 1: MINUTES, 2: worth. -2.");
        SandHold x = Check.with("shore rows 5 columns 5;" + "plot 24 minutes 9 worth 0;".repeat(6));
        for (int p = 0; p < 6; p++) {
            Check.due("CELL", x.plot(p, 0), 24);
            Check.due("MINUTES", x.plot(p, 1), 9);
            Check.due("worth", x.plot(p, 2), 0);
        }
        for (int v : new int[] {-1, Integer.MIN_VALUE, Integer.MAX_VALUE}) {
            Check.due("plot " + v, x.plot(v, 0), -2);
            Check.due("what " + v, x.plot(0, v), -2);
        }
        Check.due("plot 6", x.plot(6, 0), -2);
        Check.due("what 3", x.plot(0, 3), -2);
        Check.due("none told", new SandHold().plot(0, 2), -2);
    }

    private static void levelOfAMinute() {
        Check.says("The LEVEL in the n-th MINUTE (0 to 999), by the MOON now. -3.");
        SandHold x = Check.with(HEAD + "tide:if minute=0 then 7 else if minute=999 then 8 else moon end end;moon 2;");
        Check.due("MINUTE 0", x.level(0), 7);
        Check.due("MINUTE 999", x.level(999), 8);
        for (int n : new int[] {-1, 1000, Integer.MIN_VALUE, Integer.MAX_VALUE}) {
            Check.due("level(" + n + ")", x.level(n), -3);
        }
        x.minutes(3);
        Check.due("the n-th of all, not from now on", x.level(0), 7);
        x.moon(9);
        Check.due("by the MOON now", x.level(1), 9);
        x.undo(1);
        Check.due("by the MOON now", x.level(1), 2);
    }

    private static void wetAtALevel() {
        Check.says("CELLS that are WET at a LEVEL (0 to 10), all being as HIGH as now, as bits. -3.");
        SandHold x = Check.with("shore rows 5 columns 5;sand 24 9;sand 0 9;");
        Check.due("none at 0", x.wet(0), 0);
        Check.due("at 1", x.wet(1), 0b11110);
        Check.due("at 9", x.wet(9), (1 << 24) - 2);
        Check.due("all at 10", x.wet(10), (1 << 25) - 1);
        for (int level : new int[] {-1, 11, Integer.MIN_VALUE, Integer.MAX_VALUE}) {
            Check.due("wet(" + level + ")", x.wet(level), -3);
        }
        x.raise(1);
        Check.due("as HIGH as now", x.wet(1), 0b11100);
        Check.due("MINUTE stays", x.count(5), 0);
    }

    public static void main(String[] args) {
        aNewObject();
        none();
        oneObjectIsNotAnother();
        used512Times();
        feedTwenty();
        feedFull();
        shoreBegins();
        shoreOfNoBytes();
        shoreWithAFault();
        faultOfTheLatest();
        sandOfACell();
        houseWhat();
        plotWhat();
        levelOfAMinute();
        wetAtALevel();
        Check.end("EdgeShoreTest");
    }
}
