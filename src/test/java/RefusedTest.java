import java.util.ArrayList;
import java.util.List;
import java.util.function.Supplier;
import java.util.function.ToLongFunction;

/** Refused calls answer by a code and change nothing; nor do calls that only ask. Two objects alike, one of them called once more, must go on alike. */
public final class RefusedTest {
    private static final String RICH = "shore rows 2 columns 3;sand 1 9;house 4 owner 1;house 0 owner 3;plot 3 minutes 1 worth 2;plot 4 minutes 2 worth 2;"
        + "paper 0 4;paper 1 2;owes 0 1 5;moon 3;gale 2;tide:minute+moon-4;washes:height+1;";

    /** Images, trays, undoing, tape: some of each, tray 3 and image 0 missing. */
    private static SandHold rich() {
        SandHold x = richWithoutTape();
        Check.feed(x, "shore rows 3 columns 1;moon 6;");
        return x;
    }

    private static SandHold richWithoutTape() {
        SandHold x = Check.with(RICH);
        x.image(1);
        tray(x, 0, 3, 0, 102, 15, 1054, 203, 300, 0);
        tray(x, 1, 1, 0, 101, 203);
        tray(x, 2, 0);
        x.dig(5);
        x.build(5, 2);
        x.minutes(2);
        x.moon(4);
        return x;
    }

    /** Six houses, ten calls that can be undone, a tape of 900, trays of 40. */
    private static SandHold full() {
        SandHold x = Check.with("shore rows 2 columns 3;sand 5 9;sand 0 0;tide:0;");
        for (int c = 0; c < 6; c++) {
            x.build(c, c % 5);
        }
        for (int i = 0; i < 6; i++) {
            x.moon(9 - i);
        }
        for (int t = 0; t < 4; t++) {
            long[] forty = new long[40];
            java.util.Arrays.fill(forty, 10 + t);
            tray(x, t, t, forty);
        }
        x.image(0);
        x.image(1);
        Check.feed(x, "shore rows 1 columns 1;" + " ".repeat(870) + "moon 7;");
        return x;
    }

    private static void tray(SandHold x, int tray, int sort, long... numbers) {
        x.numbers(tray, sort, numbers.length);
        for (int i = 0; i < numbers.length; i++) {
            x.write(tray, i, numbers[i]);
        }
    }

    private static void counts(SandHold x, List<Long> seen) {
        for (int what = 0; what <= 11; what++) {
            seen.add((long) x.count(what));
        }
    }

    private static void looks(SandHold x, List<Long> seen) {
        counts(x, seen);
        seen.add((long) x.fault(0));
        seen.add((long) x.fault(1));
        for (int c = 0; c < 7; c++) {
            seen.add((long) x.sand(c));
            seen.add((long) x.papers(c));
        }
        for (int i = 0; i < 6; i++) {
            for (int what = 0; what < 3; what++) {
                seen.add((long) x.house(i, what));
                seen.add((long) x.plot(i, what));
            }
            seen.add((long) x.balance(i));
            seen.add((long) x.level(i));
            seen.add((long) x.falls(i));
        }
        seen.add((long) x.worn(0, 9));
        seen.add((long) x.mean(2, 0));
        seen.add((long) x.mean(2, 1));
    }

    /** All that can be told of an object by what it does from here on; some 300 calls. */
    private static List<Long> trace(SandHold x) {
        List<Long> seen = new ArrayList<>();
        looks(x, seen);
        for (int t = 0; t < 4; t++) {
            for (int what = 0; what < 4; what++) {
                seen.add((long) x.judge(t, what));
            }
            seen.add((long) x.moons(t));
            // 2^40 + 200 tells the sort, -7 tells that there are no numbers
            seen.add(x.write(t, 0, (1L << 40) + 33000));
        }
        for (int i = 0; i < 11; i++) {
            seen.add((long) x.undo(1));
            seen.add((long) x.count(3));
            seen.add((long) x.count(4));
            seen.add((long) x.count(5));
            seen.add((long) x.count(6));
        }
        for (int i = 0; i < 2; i++) {
            seen.add((long) x.restore(i));
            counts(x, seen);
        }
        seen.add((long) x.shore(x.count(10)));
        counts(x, seen);
        return seen;
    }

    private static void same(String call, Supplier<SandHold> made, ToLongFunction<SandHold> one, List<Long> due) {
        SandHold x = made.get();
        one.applyAsLong(x);
        List<Long> got = trace(x);
        Check.due("how much is told behind " + call, got.size(), due.size());
        for (int i = 0; i < due.size(); i++) {
            Check.due("what is told behind " + call + ", " + i, got.get(i), due.get(i));
        }
    }

    private static Supplier<SandHold> made;
    private static List<Long> unchanged;

    private static void from(Supplier<SandHold> maker) {
        made = maker;
        unchanged = trace(maker.get());
    }

    private static void refused(String call, long code, ToLongFunction<SandHold> one) {
        Check.due(call, one.applyAsLong(made.get()), code);
        same(call, made, one, unchanged);
    }

    private static void asked(String call, ToLongFunction<SandHold> one) {
        same(call, made, one, unchanged);
    }

    private static void refusedOfShore() {
        refused("shore(-1)", -3, x -> x.shore(-1));
        refused("shore(41)", -3, x -> x.shore(41));
        refused("sand(6)", -2, x -> x.sand(6));
        refused("sand(-1)", -2, x -> x.sand(-1));
        refused("house(3, 0)", -2, x -> x.house(3, 0));
        refused("house(0, 3)", -2, x -> x.house(0, 3));
        refused("plot(2, 0)", -2, x -> x.plot(2, 0));
        refused("plot(0, 3)", -2, x -> x.plot(0, 3));
        refused("level(1000)", -3, x -> x.level(1000));
        refused("level(-1)", -3, x -> x.level(-1));
        refused("wet(11)", -3, x -> x.wet(11));
        refused("wet(-1)", -3, x -> x.wet(-1));
        refused("fault(2)", -1, x -> x.fault(2));
        refused("count(12)", -1, x -> x.count(12));
    }

    private static void refusedOfDeeds() {
        refused("minutes(0)", -3, x -> x.minutes(0));
        refused("minutes(100)", -3, x -> x.minutes(100));
        refused("raise(6)", -11, x -> x.raise(6));
        refused("raise(-1)", -11, x -> x.raise(-1));
        refused("raise(1), 9 HIGH", -12, x -> x.raise(1));
        refused("dig(6)", -11, x -> x.dig(6));
        refused("dig(-1)", -11, x -> x.dig(-1));
        refused("build(6, 0)", -11, x -> x.build(6, 0));
        refused("build(-1, 0)", -11, x -> x.build(-1, 0));
        refused("build(2, 5)", -11, x -> x.build(2, 5));
        refused("build(2, -1)", -11, x -> x.build(2, -1));
        refused("build(4, 0)", -13, x -> x.build(4, 0));
        refused("moon(10)", -11, x -> x.moon(10));
        refused("moon(-1)", -11, x -> x.moon(-1));
        refused("undo(0)", -3, x -> x.undo(0));
        refused("undo(-1)", -3, x -> x.undo(-1));
        refused("undo(5)", -3, x -> x.undo(5));
        refused("undo(11)", -3, x -> x.undo(11));
        refused("judge(4, 0)", -2, x -> x.judge(4, 0));
        refused("judge(-1, 0)", -2, x -> x.judge(-1, 0));
        refused("judge(0, 4)", -2, x -> x.judge(0, 4));
        refused("judge(3, 4)", -2, x -> x.judge(3, 4));
        refused("judge(3, 0)", -6, x -> x.judge(3, 0));
        refused("perform(4)", -2, x -> x.perform(4));
        refused("perform(-1)", -2, x -> x.perform(-1));
        refused("perform(3)", -6, x -> x.perform(3));
        refused("perform(2) of no numbers", 0, x -> x.perform(2));
        refused("day(1, 0)", -3, x -> x.day(1, 0));
        refused("day(1, 41)", -3, x -> x.day(1, 41));
    }

    private static void refusedOfAhead() {
        refused("falls(3)", -2, x -> x.falls(3));
        refused("falls(-1)", -2, x -> x.falls(-1));
        refused("stands(61)", -3, x -> x.stands(61));
        refused("stands(-1)", -3, x -> x.stands(-1));
        refused("when(6)", -2, x -> x.when(6));
        refused("when(-1)", -2, x -> x.when(-1));
        refused("worn(6, 0)", -2, x -> x.worn(6, 0));
        refused("worn(6, 61)", -2, x -> x.worn(6, 61));
        refused("worn(0, 61)", -3, x -> x.worn(0, 61));
        refused("owner(61)", -3, x -> x.owner(61));
        refused("owner(-1)", -3, x -> x.owner(-1));
        refused("least(6, 0)", -2, x -> x.least(6, 0));
        refused("least(6, 11)", -2, x -> x.least(6, 11));
        refused("least(0, 11)", -3, x -> x.least(0, 11));
        refused("safe(6)", -2, x -> x.safe(6));
        refused("plan(2)", -2, x -> x.plan(2));
        refused("order(-1)", -3, x -> x.order(-1));
        refused("order(2)", -1, x -> x.order(2));
        refused("colours(12)", -2, x -> x.colours(12));
        refused("colours(1)", -2, x -> x.colours(1));
        refused("clique(2)", -2, x -> x.clique(2));
        refused("papers(6)", -2, x -> x.papers(6));
        refused("balance(5)", -99000002, x -> x.balance(5));
        refused("puts(2)", -2, x -> x.puts(2));
        refused("chance(3, 0, 0)", -2, x -> x.chance(3, 0, 0));
        refused("chance(0, 9, 2)", -2, x -> x.chance(0, 9, 2));
        refused("chance(0, 9, 0)", -3, x -> x.chance(0, 9, 0));
        refused("mean(9, 2)", -2, x -> x.mean(9, 2));
        refused("mean(9, 0)", -3, x -> x.mean(9, 0));
    }

    private static void refusedOfTrays() {
        refused("moons(4)", -2, x -> x.moons(4));
        refused("moons(3)", -6, x -> x.moons(3));
        refused("moons(2) of no numbers", -4, x -> x.moons(2));
        refused("moons(0) by none", 0, x -> x.moons(0));
        refused("look(0) by none", -1, x -> x.look(0));
        refused("look(4)", -2, x -> x.look(4));
        refused("look(3)", -6, x -> x.look(3));
        refused("look(2) of no numbers", -4, x -> x.look(2));
        refused("numbers(4, 0, 0)", -2, x -> x.numbers(4, 0, 0));
        refused("numbers(0, 4, 0)", -2, x -> x.numbers(0, 4, 0));
        refused("numbers(0, 4, 41)", -2, x -> x.numbers(0, 4, 41));
        refused("numbers(0, 0, 41)", -3, x -> x.numbers(0, 0, 41));
        refused("numbers(0, 0, -1)", -3, x -> x.numbers(0, 0, -1));
        refused("numbers(3, 0, 41)", -3, x -> x.numbers(3, 0, 41));
        refused("write(4, 0, 9)", -2, x -> x.write(4, 0, 9));
        refused("write(3, 0, 9)", -6, x -> x.write(3, 0, 9));
        refused("write(0, 7, 9)", -7, x -> x.write(0, 7, 9));
        refused("write(0, -1, 9)", -7, x -> x.write(0, -1, 9));
        refused("write(2, 0, 9)", -7, x -> x.write(2, 0, 9));
        refused("lists(4)", -2, x -> x.lists(4));
        refused("lists(3)", -6, x -> x.lists(3));
        refused("lists(2) of no numbers", 0, x -> x.lists(2));
        refused("image(2)", -2, x -> x.image(2));
        refused("image(-1)", -2, x -> x.image(-1));
        refused("restore(2)", -2, x -> x.restore(2));
        refused("restore(-1)", -2, x -> x.restore(-1));
        refused("restore(0)", -5, x -> x.restore(0));
    }

    private static void refusedWhenFull() {
        refused("feed to a tape of 900", -5, x -> x.feed(-1, -1, -1, -1, -1));
        refused("shore(901)", -3, x -> x.shore(901));
        refused("a seventh house", -12, x -> x.build(5, 0));
        refused("a seventh house by no OWNER", -11, x -> x.build(5, 5));
        refused("raise(5), 9 HIGH", -12, x -> x.raise(5));
        refused("dig(0), 0 HIGH", -12, x -> x.dig(0));
        refused("undo(11)", -3, x -> x.undo(11));
        refused("moons() of 40", -4, x -> x.moons(1));
        refused("look() of 40", -4, x -> x.look(1));
        refused("write(0, 40, 9)", -7, x -> x.write(0, 40, 9));
        refused("numbers(0, 0, 41)", -3, x -> x.numbers(0, 0, 41));
    }

    private static void refusedWhenNew() {
        refused("shore(1)", -3, x -> x.shore(1));
        refused("undo(1)", -3, x -> x.undo(1));
        refused("dig(0)", -12, x -> x.dig(0));
        refused("raise(1)", -11, x -> x.raise(1));
        refused("build(1, 0)", -11, x -> x.build(1, 0));
        refused("perform(0)", -6, x -> x.perform(0));
        refused("write(0, 0, 1)", -6, x -> x.write(0, 0, 1));
        refused("restore(0)", -5, x -> x.restore(0));
        refused("restore(1)", -5, x -> x.restore(1));
        refused("last()", -1, x -> x.last());
        refused("owner(0)", -1, x -> x.owner(0));
    }

    /** A text with a fault is read, so fault() tells of it and the tape is empty; all else stays. */
    private static void faultyTexts() {
        Check.says("all stays with a FAULT).");
        String[] texts = {"shore rows 1 columns 1;moon 1;house 0 owner 0;?", "shore rows 1 columns 1;tide:1;washes:2;zzz", "shore rows 1 columns 1;gale 9;moon 10;",
            "shore rows 1 columns 1;plot 0 minutes 1 worth 1;" + "paper 0 0;".repeat(7)};
        List<Long> due = trace(richWithoutTape());
        for (int kind = 1; kind <= 4; kind++) {
            SandHold x = richWithoutTape();
            Check.due("kind " + kind, Check.shore(x, texts[kind - 1]), -30 - kind);
            List<Long> got = trace(x);
            Check.due("fault(0)", got.get(12), kind);
            Check.due("fault(1)", got.get(13), placeOf(texts[kind - 1]));
            for (int i = 0; i < due.size(); i++) {
                if (i != 12 && i != 13) {
                    Check.due("behind kind " + kind + ", " + i, got.get(i), due.get(i));
                }
            }
        }
    }

    private static int placeOf(String text) {
        SandHold x = new SandHold();
        Check.shore(x, text);
        return x.fault(1);
    }

    private static void codesInOrder() {
        Check.says("(Of several that which the call tells first; all these ahead of NONE.) balance(): -99000002.");
        refused("judge(4, 4)", -2, x -> x.judge(4, 4));
        refused("judge(3, 4)", -2, x -> x.judge(3, 4));
        refused("worn(6, 61)", -2, x -> x.worn(6, 61));
        refused("least(6, 11)", -2, x -> x.least(6, 11));
        refused("build(4, 5)", -11, x -> x.build(4, 5));
        refused("chance(3, 9, 0)", -2, x -> x.chance(3, 9, 0));
        refused("chance(0, 9, 2)", -2, x -> x.chance(0, 9, 2));
        refused("mean(9, 2)", -2, x -> x.mean(9, 2));
        refused("numbers(4, 4, 41)", -2, x -> x.numbers(4, 4, 41));
        refused("numbers(3, 4, 41)", -2, x -> x.numbers(3, 4, 41));
        refused("write(4, 40, 0)", -2, x -> x.write(4, 40, 0));
        refused("write(3, 40, 0)", -6, x -> x.write(3, 40, 0));
        refused("order(-1)", -3, x -> x.order(-1));
        refused("balance(-1)", -99000002, x -> x.balance(-1));
        from(SandHold::new);
        refused("falls(0)", -2, x -> x.falls(0));
        refused("when(1)", -2, x -> x.when(1));
        refused("owner(61)", -3, x -> x.owner(61));
        refused("order(-1)", -3, x -> x.order(-1));
        refused("puts(1)", -2, x -> x.puts(1));
        refused("look(0)", -6, x -> x.look(0));
    }

    private static void askingChangesNothing() {
        for (int n = 0; n < 3; n++) {
            int v = n;
            asked("judge(0, " + v + ")", x -> x.judge(0, v));
            asked("falls(" + v + ")", x -> x.falls(v));
            asked("stands(60)", x -> x.stands(60));
            asked("when(" + v + ")", x -> x.when(v));
            asked("worn(" + v + ", 60)", x -> x.worn(v, 60));
            asked("least(" + v + ", 10)", x -> x.least(v, 10));
            asked("safe(" + v + ")", x -> x.safe(v));
            asked("order(" + v + ")", x -> x.order(v));
            asked("chance(" + v + ", 8, 1)", x -> x.chance(v, 8, 1));
            asked("house(" + v + ", 2)", x -> x.house(v, 2));
            asked("level(" + v + ")", x -> x.level(v));
            asked("wet(" + v + ")", x -> x.wet(v));
        }
        asked("last()", x -> x.last());
        asked("owner(60)", x -> x.owner(60));
        asked("worst()", x -> x.worst());
        asked("plan(1)", x -> x.plan(1));
        asked("colours(10)", x -> x.colours(10));
        asked("clique(1)", x -> x.clique(1));
        asked("papers(0)", x -> x.papers(0));
        asked("balance(0)", x -> x.balance(0));
        asked("payments()", x -> x.payments());
        asked("moons(1)", x -> x.moons(1));
        asked("look(1)", x -> x.look(1));
        asked("puts(1)", x -> x.puts(1));
        asked("wins()", x -> x.wins());
        asked("mean(8, 0)", x -> x.mean(8, 0));
        asked("count(6)", x -> x.count(6));
        asked("image(1), made again of what it is of", x -> {
            x.restore(1);
            return x.image(1);
        }, Check.with(RICH));
    }

    /** Making an image again of what is in it, on an object that has done nothing else since. */
    private static void asked(String call, ToLongFunction<SandHold> one, SandHold x) {
        x.image(1);
        List<Long> due = new ArrayList<>();
        looks(x, due);
        one.applyAsLong(x);
        List<Long> got = new ArrayList<>();
        looks(x, got);
        Check.dueTrue(call, got.equals(due));
    }

    public static void main(String[] args) {
        Check.says("Refused calls answer by a code and change nothing: -2 there is none such; -3 a number can't be; -4 too many; -5 it can't be now; -6 a TRAY is MISSING; -7 it has no such number; -11 to -13 why not (1 to 3); -30 less the FAULT: a text.");
        from(RefusedTest::rich);
        refusedOfShore();
        refusedOfDeeds();
        refusedOfAhead();
        refusedOfTrays();
        from(RefusedTest::full);
        refusedWhenFull();
        from(SandHold::new);
        refusedWhenNew();
        from(RefusedTest::rich);
        codesInOrder();
        faultyTexts();
        Check.says("GOING ON: MINUTES from now on, nothing else being done");
        from(RefusedTest::rich);
        askingChangesNothing();
        Check.end("RefusedTest");
    }
}
