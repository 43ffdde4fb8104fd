import java.util.Random;

/** Random runs of calls, each answered by SandHold and by the Oracle alike. */
public final class RandomTest {
    private static final Random DICE = new Random(20261117);

    private static int roll(int n) {
        return DICE.nextInt(n);
    }

    private static String pick(String... of) {
        return of[roll(of.length)];
    }

    private static String sum(int deep, boolean washes) {
        StringBuilder s = new StringBuilder(term(deep, washes));
        for (int i = roll(3); i > 0; i--) {
            s.append(pick(" + ", " - ", "+", "-\n")).append(term(deep, washes));
        }
        return s.toString();
    }

    private static String term(int deep, boolean washes) {
        StringBuilder s = new StringBuilder(atom(deep, washes));
        for (int i = roll(4) == 0 ? 1 : 0; i > 0; i--) {
            s.append(pick("*", " * ")).append(atom(deep, washes));
        }
        return s.toString();
    }

    private static String atom(int deep, boolean washes) {
        switch (deep > 0 ? roll(7) : roll(4)) {
            case 0: return " " + roll(4);
            case 1: return pick(" " + roll(12), " " + roll(1000), " 0" + roll(10), " 00" + roll(10));
            case 4: return "(" + sum(deep - 1, washes) + ")";
            case 5: case 6:
                return " if " + truth(deep - 1, washes) + " then " + sum(deep - 1, washes) + " else " + sum(deep - 1, washes) + " end ";
            default:
                return washes ? pick(" minute ", " moon ", " row ", " height ", " height ", " level ", " near ") : pick(" minute ", " moon ");
        }
    }

    private static String truth(int deep, boolean washes) {
        StringBuilder s = new StringBuilder(unit(deep, washes));
        for (int i = roll(3); i > 0; i--) {
            s.append(pick(" or ", " and ")).append(unit(deep, washes));
        }
        return s.toString();
    }

    private static String unit(int deep, boolean washes) {
        if (deep > 0 && roll(4) == 0) {
            return " not " + unit(deep - 1, washes);
        }
        if (deep > 0 && roll(4) == 0) {
            return "[" + truth(deep - 1, washes) + "]";
        }
        return sum(deep - 1, washes) + pick("=", "<", ">") + sum(deep - 1, washes);
    }

    /** A text that is right but for a law too deep or too long, now and then, or one line too many. */
    private static String text(int most) {
        int rows = 1 + roll(most);
        int columns = 1 + roll(most);
        int cells = rows * columns;
        StringBuilder s = new StringBuilder("shore rows " + rows + " columns " + columns + pick(";", " ;\n", "; "));
        int lines = roll(18);
        int houses = 0;
        for (int i = 0; i < lines; i++) {
            switch (roll(10)) {
                case 0: case 1: s.append("sand " + roll(cells) + " " + roll(10)); break;
                case 2:
                    if (houses < cells) {
                        s.append("house " + (houses * 7 + 3) % 25 % cells + " owner " + roll(5));
                        houses += 1;
                    } else {
                        s.append("moon 1");
                    }
                    break;
                case 3: s.append("plot " + roll(cells) + " minutes " + (1 + roll(9)) + " worth " + roll(10)); break;
                case 4: s.append("paper " + roll(cells) + " " + roll(cells)); break;
                case 5: {
                    int who = roll(5);
                    s.append("owes " + who + " " + (who + 1 + roll(4)) % 5 + " " + roll(pick("4", "100").equals("4") ? 4 : 100));
                    break;
                }
                case 6: s.append("moon " + roll(10)); break;
                case 7: s.append("gale " + roll(11)); break;
                case 8: s.append("tide:").append(sum(roll(4), false)); break;
                default: s.append(pick("washes:", " washes :")).append(pick("height-1", "height - 1 + near", sum(roll(4), true), sum(roll(3), true))); break;
            }
            s.append(pick(";", ";", " ;", ";\n"));
        }
        return s.toString();
    }

    /** A text of one theme, so that its calls have something to tell. */
    private static String themed(int theme) {
        int rows = 1 + roll(5);
        int columns = 1 + roll(5);
        int cells = rows * columns;
        StringBuilder s = new StringBuilder("shore rows " + rows + " columns " + columns + ";");
        for (int i = roll(cells + 1); i > 0; i--) {
            s.append("sand " + roll(cells) + " " + roll(10) + ";");
        }
        if (roll(2) == 0) {
            s.append("gale " + roll(11) + ";moon " + roll(10) + ";");
        }
        if (roll(2) == 0) {
            s.append("washes:" + pick("height-1", "height+near-1", "if near>1 then height else height-1 end", "row+level", "height+1") + ";");
        }
        switch (theme) {
            case 0:
                s.append(pick("", "", "tide:minute*2;", "tide:(minute+1)*3-moon;", "tide:if minute<9+moon then 0 else 9 end;"));
                for (int i = roll(7); i > 0; i--) {
                    s.append("plot " + roll(cells) + " minutes " + (1 + roll(roll(3) == 0 ? 9 : 3)) + " worth " + roll(10) + ";");
                }
                break;
            case 1:
                for (int i = roll(7); i > 0; i--) {
                    s.append("paper " + roll(cells) + " " + roll(cells) + ";");
                }
                for (int i = roll(9); i > 0; i--) {
                    int who = roll(5);
                    s.append("owes " + who + " " + (who + 1 + roll(4)) % 5 + " " + roll(5) + ";");
                }
                break;
            case 2:
                s.append(pick("", "tide:3;", "tide:minute+moon-4;", "tide:moon;"));
                for (int i = 0, c = roll(cells); i < Math.min(6, cells); i++) {
                    s.append("house " + (c + i) % cells + " owner " + roll(5) + ";");
                }
                break;
            default:
                s.append(pick("tide:moon;", "tide:minute-moon*2;", "tide:if minute<5 then moon*2-4 else minute-moon end;",
                    "tide:if moon>4 and minute=7 or moon<2 and minute>60 then 5 else 2 end;", "tide:" + sum(1, false) + ";"));
                break;
        }
        return s.length() > 900 ? themed(theme) : s.toString();
    }

    private static final int[][] CALLS = {
        {16, 21, 22, 23, 24, 24, 24, 5, 6, 7, 20, 17},
        {25, 25, 25, 26, 27, 28, 29},
        {8, 14, 15, 18, 19, 32, 33, 34, 34, 35, 5, 7, 9, 10},
        {36, 30, 31, 31, 9, 5, 3},
    };

    private static String spoilt(String text) {
        StringBuilder s = new StringBuilder(text);
        for (int i = 1 + roll(2); i > 0; i--) {
            int at = roll(s.length());
            switch (roll(6)) {
                case 0: s.setCharAt(at, (char) roll(256)); break;
                case 1: s.deleteCharAt(at); break;
                case 2: s.insert(at, pick(";", ":", "+", "(", ")", "[", "]", "=", "9", "12", "1000", " if ", " not ", " row ", " shore ", "x")); break;
                case 3: s.setLength(at + 1); break;
                case 4: s.setCharAt(at, (char) ('0' + roll(10))); break;
                default: s.insert(at, s.substring(Math.max(0, at - roll(20)), at)); break;
            }
        }
        return s.length() > 900 ? s.substring(0, 900) : s.toString();
    }

    private static void tell(SandHold x, Oracle o, String text) {
        byte[] all = Check.padded(text);
        for (int i = 0; i + 20 <= all.length; i += 20) {
            int[] f = {Check.four(all, i), Check.four(all, i + 4), Check.four(all, i + 8), Check.four(all, i + 12), Check.four(all, i + 16)};
            Check.due("feed", x.feed(f[0], f[1], f[2], f[3], f[4]), o.feed(f[0], f[1], f[2], f[3], f[4]));
        }
        int n = roll(12) == 0 ? roll(1000) - 20 : text.length();
        Check.due("shore(" + n + ") of " + text, x.shore(n), o.shore(n));
        for (int what = -1; what < 3; what++) {
            Check.due("fault(" + what + ") of " + text, x.fault(what), o.fault(what));
        }
    }

    private static int near(int low, int high) {
        return roll(40) == 0 ? pick("a", "b").equals("a") ? low - 1 - roll(3) : high + 1 + roll(3) : low + roll(high - low + 1);
    }

    private static int cell(SandHold x) {
        return near(0, x.count(0) * x.count(1) - 1);
    }

    private static long deed() {
        switch (roll(9)) {
            case 0: case 1: return 0;
            case 2: return 10 + roll(11);
            case 3: case 4: return 100 + roll(26);
            case 5: return 200 + roll(26);
            case 6: case 7: return 1000 + roll(260);
            default: return DICE.nextBoolean() ? DICE.nextLong() : roll(2100) - 20;
        }
    }

    private static void fill(SandHold x, Oracle o) {
        int tray = near(0, 3);
        int sort = near(0, 3);
        int n = roll(3) == 0 ? near(0, 40) : roll(9);
        Check.due("numbers", x.numbers(tray, sort, n), o.numbers(tray, sort, n));
        boolean looks = roll(2) == 0;
        boolean few = roll(2) == 0;
        for (int i = 0; i < n; i++) {
            int t = few ? roll(3) : roll(100);
            int l = roll(3) == 0 ? roll(11) : Math.max(0, x.level(Math.min(999, x.count(5) + t)));
            long v = looks ? 100L * l + t : deed();
            if (roll(60) == 0) {
                v = DICE.nextLong();
            }
            int at = roll(30) == 0 ? near(0, 40) : i;
            Check.due("write", x.write(tray, at, v), o.write(tray, at, v));
        }
    }

    private static void ask(SandHold x, Oracle o, int which) {
        int c = cell(x);
        int h = near(0, Math.max(0, x.count(2) - 1));
        int m = near(0, 60);
        int t = near(0, 3);
        int w = near(0, 1);
        switch (which) {
            case 0: Check.due("sand " + c, x.sand(c), o.sand(c)); break;
            case 1: { int k = near(0, 2); Check.due("house " + h, x.house(h, k), o.house(h, k)); break; }
            case 2: { int k = near(0, 2); int p = near(0, 5); Check.due("plot", x.plot(p, k), o.plot(p, k)); break; }
            case 3: { int k = near(0, 999); Check.due("level " + k, x.level(k), o.level(k)); break; }
            case 4: { int k = near(0, 10); Check.due("wet " + k, x.wet(k), o.wet(k)); break; }
            case 5: { int k = roll(3) > 0 ? 1 + roll(3) : near(1, 99); Check.due("minutes " + k, x.minutes(k), o.minutes(k)); break; }
            case 6: Check.due("raise " + c, x.raise(c), o.raise(c)); break;
            case 7: Check.due("dig " + c, x.dig(c), o.dig(c)); break;
            case 8: { int k = near(0, 4); Check.due("build " + c + " " + k, x.build(c, k), o.build(c, k)); break; }
            case 9: { int k = near(0, 9); Check.due("moon " + k, x.moon(k), o.moon(k)); break; }
            case 10: { int k = roll(3) > 0 ? 1 : near(1, 10); Check.due("undo " + k, x.undo(k), o.undo(k)); break; }
            case 11: { int k = near(0, 3); Check.due("judge " + t + " " + k, x.judge(t, k), o.judge(t, k)); break; }
            case 12: Check.due("perform " + t, x.perform(t), o.perform(t)); break;
            case 13: { int s = DICE.nextInt(); int k = near(1, 40); Check.due("day " + s + " " + k, x.day(s, k), o.day(s, k)); break; }
            case 14: Check.due("falls " + h, x.falls(h), o.falls(h)); break;
            case 15: Check.due("stands " + m, x.stands(m), o.stands(m)); break;
            case 16: Check.due("when " + c, x.when(c), o.when(c)); break;
            case 17: Check.due("worn " + c + " " + m, x.worn(c, m), o.worn(c, m)); break;
            case 18: Check.due("last", x.last(), o.last()); break;
            case 19: Check.due("owner " + m, x.owner(m), o.owner(m)); break;
            case 20: { int k = near(0, 10); Check.due("least " + c + " " + k, x.least(c, k), o.least(c, k)); break; }
            case 21: Check.due("safe " + c, x.safe(c), o.safe(c)); break;
            case 22: Check.due("worst", x.worst(), o.worst()); break;
            case 23: Check.due("plan " + w, x.plan(w), o.plan(w)); break;
            case 24: { int k = near(0, 5); Check.due("order " + k, x.order(k), o.order(k)); break; }
            case 25: { int k = roll(3) == 0 ? near(0, 20) : 10 + roll(7); Check.due("colours " + k, x.colours(k), o.colours(k)); break; }
            case 26: Check.due("clique " + w, x.clique(w), o.clique(w)); break;
            case 27: Check.due("papers " + c, x.papers(c), o.papers(c)); break;
            case 28: { int k = near(0, 4); Check.due("balance " + k, x.balance(k), o.balance(k)); break; }
            case 29: Check.due("payments", x.payments(), o.payments()); break;
            case 30: Check.due("moons " + t, x.moons(t), o.moons(t)); break;
            case 31: Check.due("look " + t, x.look(t), o.look(t)); break;
            case 32: { int k = near(0, x.count(0) - 1); Check.due("puts " + k, x.puts(k), o.puts(k)); break; }
            case 33: Check.due("wins", x.wins(), o.wins()); break;
            case 34: { int k = near(0, 5); Check.due("chance " + h + " " + k, x.chance(h, k, w), o.chance(h, k, w)); break; }
            case 35: { int k = near(0, 5); Check.due("mean " + k, x.mean(k, w), o.mean(k, w)); break; }
            case 36: fill(x, o); break;
            case 37: Check.due("lists " + t, x.lists(t), o.lists(t)); break;
            case 38: { int k = near(0, 1); Check.due("image " + k, x.image(k), o.image(k)); break; }
            case 39: { int k = near(0, 1); Check.due("restore " + k, x.restore(k), o.restore(k)); break; }
            default: { int k = near(0, 11); Check.due("count " + k, x.count(k), o.count(k)); break; }
        }
    }

    private static void compareAll(SandHold x, Oracle o) {
        for (int what = 0; what <= 12; what++) {
            Check.due("count " + what, x.count(what), o.count(what));
        }
        for (int c = 0; c < 26; c++) {
            Check.due("sand " + c, x.sand(c), o.sand(c));
        }
        for (int h = 0; h < 7; h++) {
            for (int what = 0; what < 3; what++) {
                Check.due("house " + h, x.house(h, what), o.house(h, what));
            }
        }
    }

    public static void main(String[] args) {
        int runs = args.length > 0 ? Integer.parseInt(args[0]) : 400;
        for (int run = 0; run < runs; run++) {
            SandHold x = new SandHold();
            Oracle o = new Oracle();
            int most = 1 + roll(5);
            for (int part = 0; part < 4; part++) {
                String text = text(most);
                if (text.length() > 900) {
                    text = text.substring(0, 900);
                }
                tell(x, o, roll(3) == 0 ? spoilt(text) : text);
                for (int i = 0; i < 70; i++) {
                    ask(x, o, roll(41));
                }
                compareAll(x, o);
            }
        }
        for (int run = 0; run < runs * 2; run++) {
            SandHold x = new SandHold();
            Oracle o = new Oracle();
            for (int part = 0; part < 4; part++) {
                tell(x, o, themed(part));
                for (int i = 0; i < 25; i++) {
                    ask(x, o, CALLS[part][roll(CALLS[part].length)]);
                }
            }
        }
        for (int i = 0; i < runs * 40; i++) {
            String text = text(5);
            tell(new SandHold(), new Oracle(), spoilt(text.length() > 900 ? text.substring(0, 900) : text));
        }
        Check.end("RandomTest");
    }
}
