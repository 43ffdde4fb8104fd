/** Going on, promises 19 to 24: each sentence that names a boundary case, by a test of its own. */
public final class EdgeAheadTest {
    private static final int[] WILD = {Integer.MIN_VALUE, -2, -1, 61, 62, 1000, Integer.MAX_VALUE};

    /** A row of cells 0, 1, 2, .. high, each with a house; the sea comes to the first in minute 59, to the next in 60, .. */
    private static SandHold late(int first) {
        return Check.with("shore rows 1 columns 5;sand 1 1;sand 2 2;sand 3 3;sand 4 4;house 0 owner 0;house 1 owner 1;house 2 owner 2;house 3 owner 3;"
            + "house 4 owner 3;tide:minute-" + (first - 1) + ";");
    }

    private static void sixtyAtMost() {
        Check.says("GOING ON: MINUTES from now on, nothing else being done, 60 at most.");
        SandHold x = late(59);
        Check.due("in the 59th", x.falls(0), 59);
        Check.due("in the 60th", x.falls(1), 60);
        Check.due("not in 60", x.falls(2), -1);
        Check.due("WET in the 60th", x.when(1), 60);
        Check.due("not WET in 60", x.when(2), -1);
        x.minutes(1);
        Check.due("from now on", x.falls(0), 58);
        Check.due("from now on", x.falls(2), 60);
        Check.due("from now on", x.when(2), 60);
        Check.due("MINUTE stays", x.count(5), 1);
        Check.due("all stand", x.count(3), 31);
        Check.due("nothing more to undo", x.count(9), 1);
        x.moon(1);
        x.raise(2);
        Check.due("by what is now", x.falls(2), -1);
    }

    private static void fallsNone() {
        Check.says("Behind how many MINUTES GOING ON a house falls (1: in the next one). NONE: not in 60, it has fallen; -2.");
        SandHold x = late(1);
        Check.due("in the next one", x.falls(0), 1);
        Check.due("in the one behind it", x.falls(1), 2);
        x.minutes(1);
        Check.due("it has fallen", x.falls(0), -1);
        Check.due("in the next one", x.falls(1), 1);
        for (int h : new int[] {Integer.MIN_VALUE, -1, 5, 6, Integer.MAX_VALUE}) {
            Check.due("falls(" + h + ")", x.falls(h), -2);
        }
        Check.due("no house at all", new SandHold().falls(0), -2);
        x.build(0, 4);
        Check.due("a house built", x.falls(5), 1);
        Check.due("one where it fell doesn't stand up", x.falls(0), -1);
    }

    private static void standsBits() {
        Check.says("Which houses stand behind n MINUTES GOING ON (0 to 60), as bits. -3.");
        SandHold x = late(59);
        Check.due("0", x.stands(0), 31);
        Check.due("58", x.stands(58), 31);
        Check.due("59", x.stands(59), 30);
        Check.due("60", x.stands(60), 28);
        for (int n : WILD) {
            Check.due("stands(" + n + ")", x.stands(n), -3);
        }
        x = late(1);
        x.minutes(2);
        Check.due("fallen ones don't", x.stands(0), 28);
        Check.due("none at all", new SandHold().stands(60), 0);
    }

    private static void whenNone() {
        Check.says("In which MINUTE GOING ON (1: the next one) a CELL is WET first. NONE: not in 60; -2.");
        SandHold x = late(60);
        Check.due("60", x.when(0), 60);
        Check.due("61", x.when(1), -1);
        x.minutes(59);
        Check.due("the next one", x.when(0), 1);
        Check.due("the one behind it", x.when(1), 2);
        x.minutes(1);
        Check.due("WET now, and first in the next one", x.when(0), 1);
        for (int c : new int[] {Integer.MIN_VALUE, -1, 5, 25, Integer.MAX_VALUE}) {
            Check.due("when(" + c + ")", x.when(c), -2);
        }
        Check.due("9 HIGH by the plain tide", Check.with("shore rows 1 columns 1;sand 0 9;").when(0), -1);
    }

    private static void wornSand() {
        Check.says("How HIGH a CELL is behind n MINUTES GOING ON (0 to 60). -2; -3.");
        SandHold x = Check.with("shore rows 1 columns 2;sand 0 5;tide:10;washes:if minute=60 then 1 else if minute=61 then 2 else height end end;");
        Check.due("0", x.worn(0, 0), 5);
        Check.due("59", x.worn(0, 59), 5);
        Check.due("60", x.worn(0, 60), 1);
        for (int n : WILD) {
            Check.due("worn(0, " + n + ")", x.worn(0, n), -3);
            Check.due("-2 ahead of -3: " + n, x.worn(2, n), -2);
        }
        for (int c : new int[] {Integer.MIN_VALUE, -1, 2, 25, Integer.MAX_VALUE}) {
            Check.due("worn(" + c + ", 0)", x.worn(c, 0), -2);
        }
        x.minutes(1);
        Check.due("from now on", x.worn(0, 60), 2);
        Check.due("it is as it was", x.sand(0), 5);
    }

    private static void lastOfSixty() {
        Check.says("The house that stands longest GOING ON (60 at most), the first. NONE: none stands now.");
        Check.due("no house", new SandHold().last(), -1);
        SandHold x = late(1);
        Check.due("the last to fall", x.last(), 4);
        x.minutes(4);
        Check.due("the only one that stands", x.last(), 4);
        x.minutes(1);
        Check.due("none stands now", x.last(), -1);
        Check.due("3 and 4 stand for 60", late(58).last(), 3);
        Check.due("2 and more stand for 60", late(59).last(), 2);
        Check.due("1 and more stand for 60, 0 falls in the 60th", late(60).last(), 1);
        Check.due("all stand for 60", late(61).last(), 0);
        SandHold y = Check.with("shore rows 1 columns 2;house 1 owner 0;house 0 owner 0;tide:10;");
        Check.due("both fall in the next one", y.last(), 0);
        y.minutes(1);
        y.build(0, 0);
        Check.due("a fallen one isn't the first", y.last(), 2);
    }

    private static void ownerOfMost() {
        Check.says("The OWNER who has most houses that stand behind n MINUTES GOING ON (0 to 60), the first. NONE: nobody has one; -3.");
        SandHold x = late(57);
        Check.due("two of 3", x.owner(0), 3);
        Check.due("0, 1, 2 are gone behind 59", x.owner(59), 3);
        Check.due("one of 3 behind 60", x.owner(60), 3);
        Check.due("nobody behind 5", late(1).owner(5), -1);
        Check.due("nobody behind 60", late(1).owner(60), -1);
        Check.due("nobody at all", new SandHold().owner(0), -1);
        for (int n : WILD) {
            Check.due("owner(" + n + ")", x.owner(n), -3);
            Check.due("-3 ahead of NONE: " + n, new SandHold().owner(n), -3);
        }
        SandHold y = Check.with("shore rows 1 columns 4;house 0 owner 4;house 1 owner 0;house 2 owner 4;house 3 owner 0;tide:0;");
        Check.due("two each: the first OWNER", y.owner(0), 0);
        SandHold z = Check.with("shore rows 1 columns 1;house 0 owner 4;tide:0;");
        Check.due("the last OWNER", z.owner(60), 4);
    }

    public static void main(String[] args) {
        sixtyAtMost();
        fallsNone();
        standsBits();
        whenNone();
        wornSand();
        lastOfSixty();
        ownerOfMost();
        Check.end("EdgeAheadTest");
    }
}
