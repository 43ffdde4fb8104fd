import java.math.BigInteger;
import java.nio.ByteBuffer;
import java.util.ArrayDeque;
import java.util.ArrayList;
import java.util.Arrays;
import java.util.Deque;
import java.util.HashMap;
import java.util.HashSet;
import java.util.List;
import java.util.Map;
import java.util.Set;
import java.util.TreeSet;
import java.util.function.IntFunction;

/** A second SandHold, slow and plain, written from the document by other means: random runs compare the two. */
final class Oracle {
    static final class Fault extends RuntimeException {
        final int kind;
        final int place;

        Fault(int kind, int place) {
            super(null, null, false, false);
            this.kind = kind;
            this.place = place;
        }
    }

    record Token(int at, String text) {
        boolean number() {
            return !text.isEmpty() && Character.isDigit(text.charAt(0));
        }
    }

    record Place(Map<String, Integer> names) {
        int get(String name) {
            return names.get(name);
        }
    }

    interface Sum {
        int of(Place at);
    }

    interface Truth {
        boolean of(Place at);
    }

    record Plot(int cell, int minutes, int worth) {
    }

    record House(int cell, int owner, boolean stands) {
    }

    static final class Told {
        int rows = 1;
        int columns = 1;
        int lines = 0;
        int gale = 0;
        List<Plot> plots = new ArrayList<>();
        List<Set<Integer>> papers = new ArrayList<>();
        int[] balance = new int[5];
        int debts = 0;
        Sum tide = null;
        Sum washes = null;

        int cells() {
            return rows * columns;
        }

        List<Integer> beside(int c) {
            List<Integer> all = new ArrayList<>();
            int r = c / columns;
            int k = c % columns;
            int[][] steps = {{-1, 0}, {1, 0}, {0, -1}, {0, 1}};
            for (int[] s : steps) {
                int rr = r + s[0];
                int kk = k + s[1];
                if (rr >= 0 && rr < rows && kk >= 0 && kk < columns) {
                    all.add(rr * columns + kk);
                }
            }
            return all;
        }
    }

    static final class World {
        Told told = new Told();
        List<Integer> sand = new ArrayList<>(List.of(0));
        List<House> houses = new ArrayList<>();
        int moon = 0;
        int minute = 0;

        World copy() {
            World w = new World();
            w.told = told;
            w.sand = new ArrayList<>(sand);
            w.houses = new ArrayList<>(houses);
            w.moon = moon;
            w.minute = minute;
            return w;
        }

        int level(int m, int withMoon) {
            if (told.tide == null) {
                int[] wave = {0, 1, 2, 3, 4, 5, 6, 7, 8, 9, 8, 7, 6, 5, 4, 3, 2, 1};
                return wave[m % 18];
            }
            int v = told.tide.of(new Place(Map.of("minute", m, "moon", withMoon)));
            return v < 0 ? 0 : v > 10 ? 10 : v;
        }

        Set<Integer> wet(int level) {
            Set<Integer> wet = new TreeSet<>();
            Deque<Integer> todo = new ArrayDeque<>();
            for (int c = 0; c < told.columns; c++) {
                todo.add(c);
            }
            while (!todo.isEmpty()) {
                int c = todo.remove();
                if (sand.get(c) < level && wet.add(c)) {
                    todo.addAll(told.beside(c));
                }
            }
            return wet;
        }

        Set<Integer> minute() {
            return minuteAt(level(minute + 1, moon));
        }

        Set<Integer> minuteAt(int level) {
            minute++;
            Set<Integer> wet = wet(level);
            for (int h = 0; h < houses.size(); h++) {
                House x = houses.get(h);
                if (wet.contains(x.cell())) {
                    houses.set(h, new House(x.cell(), x.owner(), false));
                }
            }
            if (told.washes != null) {
                List<Integer> then = new ArrayList<>(sand);
                for (int c : wet) {
                    int near = 0;
                    for (int b : told.beside(c)) {
                        if (wet.contains(b)) {
                            near++;
                        }
                    }
                    int v = told.washes.of(new Place(Map.of("minute", minute, "moon", moon, "row", c / told.columns,
                        "height", sand.get(c), "level", level, "near", near)));
                    then.set(c, v < 0 ? 0 : v > 9 ? 9 : v);
                }
                sand = then;
            }
            return wet;
        }

        int standing() {
            int bits = 0;
            for (int h = 0; h < houses.size(); h++) {
                if (houses.get(h).stands()) {
                    bits |= 1 << h;
                }
            }
            return bits;
        }

        int allSand() {
            return sand.stream().mapToInt(Integer::intValue).sum();
        }

        boolean built(int c) {
            return houses.stream().anyMatch(h -> h.stands() && h.cell() == c);
        }

        int raise(int c) {
            if (c < 0 || c >= told.cells()) {
                return 1;
            }
            if (sand.get(c) == 9) {
                return 2;
            }
            sand.set(c, sand.get(c) + 1);
            return 0;
        }

        int dig(int c) {
            if (c < 0 || c >= told.cells()) {
                return 1;
            }
            if (sand.get(c) == 0) {
                return 2;
            }
            sand.set(c, sand.get(c) - 1);
            return 0;
        }

        int build(int c, int owner) {
            if (c < 0 || c >= told.cells() || owner < 0 || owner > 4) {
                return 1;
            }
            if (houses.size() == 6) {
                return 2;
            }
            if (built(c)) {
                return 3;
            }
            houses.add(new House(c, owner, true));
            return 0;
        }

        int setMoon(int n) {
            if (n < 0 || n > 9) {
                return 1;
            }
            moon = n;
            return 0;
        }

        int deed(long v) {
            if (v == 0) {
                minute();
                return 0;
            }
            if (v >= 10 && v <= 19) {
                return setMoon((int) v - 10);
            }
            if (v >= 100 && v <= 199) {
                return raise((int) v - 100);
            }
            if (v >= 200 && v <= 299) {
                return dig((int) v - 200);
            }
            if (v >= 1000 && v <= 1999) {
                return build((int) (v - 1000) / 10, (int) (v % 10));
            }
            return 1;
        }
    }

    /** The text's grammar, on a list of tokens that ends with an empty one. */
    static final class Grammar {
        final List<Token> tokens = new ArrayList<>();
        int at = 0;
        boolean washes;
        final World world = new World();
        final Told told = world.told;

        Grammar(byte[] text) {
            int i = 0;
            while (i < text.length) {
                int b = text[i] & 255;
                int j = i;
                if (b == 10 || b == 32) {
                    i++;
                    continue;
                }
                if (b >= 97 && b <= 122) {
                    while (j < text.length && text[j] >= 97 && text[j] <= 122) {
                        j++;
                    }
                } else if (b >= 48 && b <= 57) {
                    while (j < text.length && text[j] >= 48 && text[j] <= 57) {
                        j++;
                    }
                } else {
                    j++;
                }
                StringBuilder s = new StringBuilder();
                for (int k = i; k < j; k++) {
                    s.append((char) (text[k] & 255));
                }
                tokens.add(new Token(i, s.toString()));
                i = j;
            }
            tokens.add(new Token(text.length, ""));
        }

        Token peek() {
            Token t = tokens.get(at);
            String s = t.text();
            boolean word = s.matches("[a-z]+");
            boolean number = s.matches("[0-9]{1,3}");
            boolean sign = s.length() == 1 && ";:+-*()[]=<>".contains(s);
            if (!s.isEmpty() && !word && !number && !sign) {
                throw new Fault(1, t.at());
            }
            return t;
        }

        boolean is(String s) {
            return peek().text().equals(s);
        }

        Fault cant() {
            return new Fault(2, peek().at());
        }

        void need(String s) {
            if (!is(s)) {
                throw cant();
            }
            at++;
        }

        int number(int low, int high) {
            Token t = peek();
            if (!t.number()) {
                throw cant();
            }
            int v = Integer.parseInt(t.text());
            if (v < low || v > high) {
                throw new Fault(3, t.at());
            }
            at++;
            return v;
        }

        int cell() {
            return number(0, told.cells() - 1);
        }

        World text() {
            need("shore");
            need("rows");
            told.rows = number(1, 5);
            need("columns");
            told.columns = number(1, 5);
            need(";");
            told.lines = 1;
            world.sand.clear();
            for (int c = 0; c < told.cells(); c++) {
                world.sand.add(c / told.columns);
            }
            while (!is("")) {
                line();
                need(";");
                told.lines++;
            }
            return world;
        }

        void most(int has, int most) {
            if (has == most) {
                throw new Fault(4, peek().at());
            }
            at++;
        }

        void line() {
            switch (peek().text()) {
                case "sand" -> {
                    at++;
                    int c = cell();
                    world.sand.set(c, number(0, 9));
                }
                case "house" -> {
                    most(world.houses.size(), 6);
                    Token t = peek();
                    int c = cell();
                    if (world.built(c)) {
                        throw new Fault(3, t.at());
                    }
                    need("owner");
                    world.houses.add(new House(c, number(0, 4), true));
                }
                case "plot" -> {
                    most(told.plots.size(), 6);
                    int c = cell();
                    need("minutes");
                    int m = number(1, 9);
                    need("worth");
                    told.plots.add(new Plot(c, m, number(0, 9)));
                }
                case "paper" -> {
                    most(told.papers.size(), 6);
                    int a = cell();
                    int b = cell();
                    Set<Integer> over = new HashSet<>();
                    for (int c = 0; c < told.cells(); c++) {
                        if (between(c / told.columns, a / told.columns, b / told.columns)
                            && between(c % told.columns, a % told.columns, b % told.columns)) {
                            over.add(c);
                        }
                    }
                    told.papers.add(over);
                }
                case "owes" -> {
                    most(told.debts, 8);
                    told.debts++;
                    int who = number(0, 4);
                    Token t = peek();
                    int whom = number(0, 4);
                    if (who == whom) {
                        throw new Fault(3, t.at());
                    }
                    int much = number(0, 99);
                    told.balance[who] -= much;
                    told.balance[whom] += much;
                }
                case "moon" -> {
                    at++;
                    world.moon = number(0, 9);
                }
                case "gale" -> {
                    at++;
                    told.gale = number(0, 10);
                }
                case "tide" -> {
                    at++;
                    need(":");
                    washes = false;
                    told.tide = sum(0);
                }
                case "washes" -> {
                    at++;
                    need(":");
                    washes = true;
                    told.washes = sum(0);
                }
                default -> throw cant();
            }
        }

        static boolean between(int v, int a, int b) {
            return v >= Math.min(a, b) && v <= Math.max(a, b);
        }

        static int keep(long v) {
            return v < -1000000 ? -1000000 : v > 1000000 ? 1000000 : (int) v;
        }

        Sum sum(int deep) {
            Sum left = term(deep);
            while (is("+") || is("-")) {
                boolean plus = is("+");
                at++;
                Sum a = left;
                Sum b = term(deep);
                left = plus ? p -> keep((long) a.of(p) + b.of(p)) : p -> keep((long) a.of(p) - b.of(p));
            }
            return left;
        }

        Sum term(int deep) {
            Sum left = atom(deep);
            while (is("*")) {
                at++;
                Sum a = left;
                Sum b = atom(deep);
                left = p -> keep((long) a.of(p) * b.of(p));
            }
            return left;
        }

        int deeper(int deep) {
            if (deep == 6) {
                throw new Fault(4, peek().at());
            }
            at++;
            return deep + 1;
        }

        Sum atom(int deep) {
            Token t = peek();
            if (t.number()) {
                at++;
                int v = Integer.parseInt(t.text());
                return p -> v;
            }
            if (is("(")) {
                int d = deeper(deep);
                Sum s = sum(d);
                need(")");
                return s;
            }
            if (is("if")) {
                int d = deeper(deep);
                Truth holds = truth(d);
                need("then");
                Sum yes = sum(d);
                need("else");
                Sum no = sum(d);
                need("end");
                return p -> holds.of(p) ? yes.of(p) : no.of(p);
            }
            Set<String> names = washes ? Set.of("minute", "moon", "row", "height", "level", "near") : Set.of("minute", "moon");
            if (!names.contains(t.text())) {
                throw cant();
            }
            at++;
            return p -> p.get(t.text());
        }

        Truth truth(int deep) {
            Truth left = both(deep);
            while (is("or")) {
                at++;
                Truth a = left;
                Truth b = both(deep);
                left = p -> a.of(p) || b.of(p);
            }
            return left;
        }

        Truth both(int deep) {
            Truth left = unit(deep);
            while (is("and")) {
                at++;
                Truth a = left;
                Truth b = unit(deep);
                left = p -> a.of(p) && b.of(p);
            }
            return left;
        }

        Truth unit(int deep) {
            if (is("not")) {
                int d = deeper(deep);
                Truth u = unit(d);
                return p -> !u.of(p);
            }
            if (is("[")) {
                int d = deeper(deep);
                Truth u = truth(d);
                need("]");
                return u;
            }
            Sum a = sum(deep);
            String by = peek().text();
            if (!by.equals("=") && !by.equals("<") && !by.equals(">")) {
                throw cant();
            }
            at++;
            Sum b = sum(deep);
            return p -> by.equals("=") ? a.of(p) == b.of(p) : by.equals("<") ? a.of(p) < b.of(p) : a.of(p) > b.of(p);
        }
    }

    private World world = new World();
    private final List<Byte> tape = new ArrayList<>();
    private int fault = 0;
    private int place = -1;
    private final Deque<World> past = new ArrayDeque<>();
    private final World[] images = new World[2];
    private final Object[] trays = new Object[4];

    // ---- the shore

    int feed(int a, int b, int c, int d, int e) {
        if (tape.size() > 880) {
            return -5;
        }
        for (byte x : ByteBuffer.allocate(20).putInt(a).putInt(b).putInt(c).putInt(d).putInt(e).array()) {
            tape.add(x);
        }
        return tape.size();
    }

    int shore(int n) {
        if (n < 0 || n > tape.size()) {
            return -3;
        }
        byte[] text = new byte[n];
        for (int i = 0; i < n; i++) {
            text[i] = tape.get(i);
        }
        tape.clear();
        try {
            World then = new Grammar(text).text();
            world = then;
            past.clear();
            fault = 0;
            place = -1;
            return world.told.lines;
        } catch (Fault f) {
            fault = f.kind;
            place = f.place;
            return -30 - f.kind;
        }
    }

    int fault(int what) {
        return what == 0 ? fault : what == 1 ? place : -1;
    }

    private boolean cell(int c) {
        return c >= 0 && c < world.told.cells();
    }

    int sand(int c) {
        return cell(c) ? world.sand.get(c) : -2;
    }

    int house(int h, int what) {
        if (h < 0 || h >= world.houses.size() || what < 0 || what > 2) {
            return -2;
        }
        House x = world.houses.get(h);
        return new int[] {x.cell(), x.owner(), x.stands() ? 1 : 0}[what];
    }

    int plot(int p, int what) {
        if (p < 0 || p >= world.told.plots.size() || what < 0 || what > 2) {
            return -2;
        }
        Plot x = world.told.plots.get(p);
        return new int[] {x.cell(), x.minutes(), x.worth()}[what];
    }

    int level(int n) {
        return n < 0 || n > 999 ? -3 : world.level(n, world.moon);
    }

    private static int bits(Set<Integer> set) {
        int bits = 0;
        for (int i : set) {
            bits |= 1 << i;
        }
        return bits;
    }

    int wet(int level) {
        return level < 0 || level > 10 ? -3 : bits(world.wet(level));
    }

    // ---- deeds

    private void remember(World before) {
        past.push(before);
        if (past.size() > 10) {
            past.removeLast();
        }
    }

    int minutes(int n) {
        if (n < 1 || n > 99) {
            return -3;
        }
        remember(world.copy());
        for (int i = 0; i < n; i++) {
            world.minute();
        }
        return Integer.bitCount(world.standing());
    }

    private int did(World before, int why, int answer) {
        if (why != 0) {
            return -10 - why;
        }
        remember(before);
        return answer;
    }

    int raise(int c) {
        World before = world.copy();
        return did(before, world.raise(c), sand(c));
    }

    int dig(int c) {
        World before = world.copy();
        return did(before, world.dig(c), sand(c));
    }

    int build(int c, int owner) {
        World before = world.copy();
        return did(before, world.build(c, owner), world.houses.size() - 1);
    }

    int moon(int n) {
        World before = world.copy();
        return did(before, world.setMoon(n), before.moon);
    }

    int undo(int n) {
        if (n < 1 || n > 10 || n > past.size()) {
            return -3;
        }
        for (int i = 0; i < n; i++) {
            world = past.pop();
        }
        return past.size();
    }

    private int badTray(int tray) {
        if (tray < 0 || tray > 3) {
            return -2;
        }
        return trays[tray] == null ? -6 : 0;
    }

    private int size(int tray) {
        return java.lang.reflect.Array.getLength(trays[tray]);
    }

    private long number(int tray, int i) {
        return java.lang.reflect.Array.getLong(trays[tray], i);
    }

    int judge(int tray, int what) {
        if (tray < 0 || tray > 3 || what < 0 || what > 3) {
            return -2;
        }
        if (trays[tray] == null) {
            return -6;
        }
        World w = world.copy();
        int first = -1;
        int why = 0;
        for (int i = 0; i < size(tray) && first < 0; i++) {
            why = w.deed(number(tray, i));
            if (why != 0) {
                first = i;
            }
        }
        return new int[] {first, why, w.allSand(), w.standing()}[what];
    }

    int perform(int tray) {
        if (badTray(tray) != 0) {
            return badTray(tray);
        }
        World before = world.copy();
        int n = 0;
        for (int i = 0; i < size(tray); i++) {
            if (world.deed(number(tray, i)) != 0) {
                break;
            }
            n++;
        }
        if (n > 0) {
            remember(before);
        }
        return n;
    }

    int day(int seed, int times) {
        if (times < 1 || times > 40) {
            return -3;
        }
        World before = world.copy();
        int[] x = {seed};
        IntFunction<Integer> draw = sides -> {
            x[0] = (int) (1103515245L * x[0] + 12345L);
            return (x[0] >>> 16) % sides;
        };
        int n = 0;
        for (int i = 0; i < times; i++) {
            int why;
            switch (draw.apply(6)) {
                case 2: why = world.raise(draw.apply(25)); break;
                case 3: why = world.dig(draw.apply(25)); break;
                case 4: {
                    int c = draw.apply(25);
                    int o = draw.apply(5);
                    why = world.build(c, o);
                    break;
                }
                case 5: why = world.setMoon(draw.apply(10)); break;
                default: why = 0; world.minute(); break;
            }
            n += why == 0 ? 1 : 0;
        }
        if (n > 0) {
            remember(before);
        }
        return n;
    }

    // ---- going on

    private World after(int n) {
        World w = world.copy();
        for (int i = 0; i < n; i++) {
            w.minute();
        }
        return w;
    }

    int falls(int h) {
        if (h < 0 || h >= world.houses.size()) {
            return -2;
        }
        if (!world.houses.get(h).stands()) {
            return -1;
        }
        for (int n = 1; n <= 60; n++) {
            if (!after(n).houses.get(h).stands()) {
                return n;
            }
        }
        return -1;
    }

    int stands(int n) {
        return n < 0 || n > 60 ? -3 : after(n).standing();
    }

    int when(int c) {
        if (!cell(c)) {
            return -2;
        }
        World w = world.copy();
        for (int n = 1; n <= 60; n++) {
            if (w.minute().contains(c)) {
                return n;
            }
        }
        return -1;
    }

    int worn(int c, int n) {
        if (!cell(c)) {
            return -2;
        }
        return n < 0 || n > 60 ? -3 : after(n).sand.get(c);
    }

    int last() {
        int best = -1;
        int longest = -1;
        for (int h = 0; h < world.houses.size(); h++) {
            if (world.houses.get(h).stands()) {
                int f = falls(h);
                int stood = f == -1 ? 60 : f - 1;
                if (stood > longest) {
                    longest = stood;
                    best = h;
                }
            }
        }
        return best;
    }

    int owner(int n) {
        if (n < 0 || n > 60) {
            return -3;
        }
        int[] has = new int[5];
        for (House h : after(n).houses) {
            if (h.stands()) {
                has[h.owner()]++;
            }
        }
        int most = Arrays.stream(has).max().getAsInt();
        for (int o = 0; o < 5 && most > 0; o++) {
            if (has[o] == most) {
                return o;
            }
        }
        return -1;
    }

    // ---- dry

    /** Over all sets that may stay wet, row by row: all cells beside such a set, or by the sea, must be raised. */
    int least(int c, int level) {
        if (!cell(c)) {
            return -2;
        }
        if (level < 0 || level > 10) {
            return -3;
        }
        int k = world.told.columns;
        int rows = world.told.rows;
        int sets = 1 << k;
        // cost[above][here]: rows ahead of "here" are paid
        int[][] cost = new int[sets][sets];
        for (int[] row : cost) {
            Arrays.fill(row, 1 << 20);
        }
        for (int here = 0; here < sets; here++) {
            if (stays(here, 0, c)) {
                cost[0][here] = 0;
            }
        }
        int best = 1 << 20;
        for (int r = 0; r < rows; r++) {
            int[][] then = new int[sets][sets];
            for (int[] row : then) {
                Arrays.fill(row, 1 << 20);
            }
            for (int above = 0; above < sets; above++) {
                for (int here = 0; here < sets; here++) {
                    if (cost[above][here] >= 1 << 20) {
                        continue;
                    }
                    for (int below = 0; below < (r == rows - 1 ? 1 : sets); below++) {
                        if (r < rows - 1 && !stays(below, r + 1, c)) {
                            continue;
                        }
                        int paid = cost[above][here] + pays(r, above, here, below, level);
                        then[here][below] = Math.min(then[here][below], paid);
                        if (r == rows - 1) {
                            best = Math.min(best, paid);
                        }
                    }
                }
            }
            cost = then;
        }
        return best;
    }

    private boolean stays(int set, int row, int c) {
        return c / world.told.columns != row || (set >> c % world.told.columns & 1) == 0;
    }

    private int pays(int r, int above, int here, int below, int level) {
        int k = world.told.columns;
        int touched = r == 0 ? (1 << k) - 1 : above | below | here << 1 | here >> 1;
        int paid = 0;
        for (int i = 0; i < k; i++) {
            if ((here >> i & 1) == 0 && (touched >> i & 1) != 0) {
                paid += Math.max(0, level - world.sand.get(r * k + i));
            }
        }
        return paid;
    }

    int safe(int c) {
        if (!cell(c)) {
            return -2;
        }
        int level = 10;
        while (world.wet(level).contains(c)) {
            level--;
        }
        return level;
    }

    int worst() {
        int best = 0;
        int most = -1;
        for (int l = 10; l >= 1; l--) {
            int less = world.wet(l).size() - world.wet(l - 1).size();
            if (less >= most) {
                most = less;
                best = l;
            }
        }
        return best;
    }

    // ---- plots

    private List<Integer> firstOrder(int set, List<Integer> begun, int gone) {
        if (Integer.bitCount(set) == begun.size()) {
            return begun;
        }
        for (int p = 0; p < world.told.plots.size(); p++) {
            if ((set >> p & 1) == 0 || begun.contains(p)) {
                continue;
            }
            Plot x = world.told.plots.get(p);
            int then = gone + x.minutes();
            int w = when(x.cell());
            if (then > 60 || w != -1 && then >= w) {
                continue;
            }
            List<Integer> more = new ArrayList<>(begun);
            more.add(p);
            List<Integer> found = firstOrder(set, more, then);
            if (found != null) {
                return found;
            }
        }
        return null;
    }

    private int bestSet() {
        int best = 0;
        for (int set = 0; set < 1 << world.told.plots.size(); set++) {
            if (worth(set) > worth(best) && firstOrder(set, List.of(), 0) != null) {
                best = set;
            }
        }
        return best;
    }

    private int worth(int set) {
        int worth = 0;
        for (int p = 0; p < world.told.plots.size(); p++) {
            worth += (set >> p & 1) * world.told.plots.get(p).worth();
        }
        return worth;
    }

    int plan(int what) {
        if (what != 0 && what != 1) {
            return -2;
        }
        int best = bestSet();
        return what == 0 ? worth(best) : best;
    }

    int order(int i) {
        if (i < 0) {
            return -3;
        }
        List<Integer> order = firstOrder(bestSet(), List.of(), 0);
        return i < order.size() ? order.get(i) : -1;
    }

    // ---- papers

    private boolean overlap(int p, int q) {
        Set<Integer> both = new HashSet<>(world.told.papers.get(p));
        both.retainAll(world.told.papers.get(q));
        return !both.isEmpty();
    }

    int colours(int what) {
        int n = world.told.papers.size();
        if (what != 0 && (what < 10 || what >= 10 + n)) {
            return -2;
        }
        for (int k = 0; k <= n; k++) {
            int all = (int) Math.round(Math.pow(k, n));
            for (int code = 0; code < all; code++) {
                int[] colour = new int[n];
                int rest = code;
                for (int p = n - 1; p >= 0; p--) {
                    colour[p] = rest % k;
                    rest /= k;
                }
                boolean good = true;
                for (int p = 0; p < n; p++) {
                    for (int q = 0; q < p; q++) {
                        good &= colour[p] != colour[q] || !overlap(p, q);
                    }
                }
                if (good) {
                    return what == 0 ? k : colour[what - 10];
                }
            }
        }
        return 0;
    }

    int clique(int what) {
        if (what != 0 && what != 1) {
            return -2;
        }
        int n = world.told.papers.size();
        int best = 0;
        for (int set = (1 << n) - 1; set >= 0; set--) {
            boolean good = true;
            for (int p = 0; p < n; p++) {
                for (int q = 0; q < n; q++) {
                    if ((set >> p & 1) != 0 && (set >> q & 1) != 0) {
                        good &= overlap(p, q);
                    }
                }
            }
            if (good && Integer.bitCount(set) >= Integer.bitCount(best)) {
                best = set;
            }
        }
        return what == 0 ? Integer.bitCount(best) : best;
    }

    int papers(int c) {
        if (!cell(c)) {
            return -2;
        }
        int over = 0;
        for (int p = 0; p < world.told.papers.size(); p++) {
            if (world.told.papers.get(p).contains(c)) {
                over |= 1 << p;
            }
        }
        return over;
    }

    // ---- debts

    int balance(int owner) {
        return owner < 0 || owner > 4 ? -99000002 : world.told.balance[owner];
    }

    int payments() {
        return settle(world.told.balance.clone(), 0);
    }

    /** The first that isn't even yet pays, or is paid, all at once by each other one in turn. */
    private static int settle(int[] b, int from) {
        while (from < 5 && b[from] == 0) {
            from++;
        }
        if (from == 5) {
            return 0;
        }
        int best = 99;
        for (int o = from + 1; o < 5; o++) {
            if ((long) b[o] * b[from] < 0) {
                int[] then = b.clone();
                then[o] += b[from];
                then[from] = 0;
                best = Math.min(best, 1 + settle(then, from + 1));
            }
        }
        return best;
    }

    // ---- looked

    int moons(int tray) {
        if (badTray(tray) != 0) {
            return badTray(tray);
        }
        if (size(tray) < 1 || size(tray) > 8) {
            return -4;
        }
        for (int i = 0; i < size(tray); i++) {
            if (number(tray, i) < 0 || number(tray, i) > 1099) {
                return -3;
            }
        }
        int all = 0;
        for (int m = 0; m < 10; m++) {
            boolean so = true;
            for (int i = 0; i < size(tray); i++) {
                int v = (int) number(tray, i);
                so &= world.level(world.minute + v % 100, m) == v / 100;
            }
            if (so) {
                all |= 1 << m;
            }
        }
        return all;
    }

    int look(int tray) {
        int set = moons(tray);
        if (set < 0) {
            return set;
        }
        if (set == 0) {
            return -1;
        }
        int best = -1;
        int least = 99;
        for (int t = 0; t < 100; t++) {
            Map<Integer, Integer> groups = new HashMap<>();
            for (int m = 0; m < 10; m++) {
                if ((set >> m & 1) != 0) {
                    groups.merge(world.level(world.minute + t, m), 1, Integer::sum);
                }
            }
            int most = groups.values().stream().max(Integer::compare).get();
            if (most < least) {
                least = most;
                best = t;
            }
        }
        return best;
    }

    // ---- by turns

    private boolean free(Set<Integer> built, int c) {
        int k = world.told.columns;
        return !built.contains(c)
            && !(c % k > 0 && built.contains(c - 1))
            && !(c % k < k - 1 && built.contains(c + 1));
    }

    private boolean firstWins(Set<Integer> built, int from, int to, Map<Integer, Boolean> known) {
        int key = 0;
        for (int c = from; c < to; c++) {
            if (free(built, c)) {
                key |= 1 << c;
            }
        }
        Boolean told = known.get(key);
        if (told != null) {
            return told;
        }
        boolean wins = false;
        for (int c = from; c < to && !wins; c++) {
            if ((key >> c & 1) != 0) {
                Set<Integer> more = new HashSet<>(built);
                more.add(c);
                wins = !firstWins(more, from, to, known);
            }
        }
        known.put(key, wins);
        return wins;
    }

    private Set<Integer> builtNow() {
        Set<Integer> built = new HashSet<>();
        for (House h : world.houses) {
            if (h.stands()) {
                built.add(h.cell());
            }
        }
        return built;
    }

    int puts(int row) {
        int k = world.told.columns;
        if (row < 0 || row >= world.told.rows) {
            return -2;
        }
        for (int c = row * k; c < row * k + k; c++) {
            Set<Integer> built = builtNow();
            if (free(built, c)) {
                built.add(c);
                if (!firstWins(built, row * k, row * k + k, new HashMap<>())) {
                    return c;
                }
            }
        }
        return -1;
    }

    int wins() {
        return firstWins(builtNow(), 0, world.told.cells(), new HashMap<>()) ? 1 : 0;
    }

    // ---- chances

    private BigInteger[] weigh(int n, int house) {
        BigInteger stood = BigInteger.ZERO;
        for (int pattern = 0; pattern < 1 << n; pattern++) {
            long weight = 1;
            World w = world.copy();
            for (int m = 0; m < n; m++) {
                boolean blows = (pattern >> m & 1) != 0;
                weight *= blows ? world.told.gale : 10 - world.told.gale;
                if (weight == 0) {
                    break;
                }
                w.minuteAt(Math.min(10, w.level(w.minute + 1, w.moon) + (blows ? 1 : 0)));
            }
            if (weight > 0) {
                int bits = w.standing();
                int has = house >= 0 ? bits >> house & 1 : Integer.bitCount(bits);
                stood = stood.add(BigInteger.valueOf(weight * has));
            }
        }
        BigInteger below = BigInteger.TEN.pow(n);
        BigInteger g = stood.gcd(below);
        return new BigInteger[] {stood.divide(g), below.divide(g)};
    }

    int chance(int h, int n, int what) {
        if (h < 0 || h >= world.houses.size() || what < 0 || what > 1) {
            return -2;
        }
        return n < 0 || n > 8 ? -3 : weigh(n, h)[what].intValueExact();
    }

    int mean(int n, int what) {
        if (what < 0 || what > 1) {
            return -2;
        }
        return n < 0 || n > 8 ? -3 : weigh(n, -1)[what].intValueExact();
    }

    // ---- trays, images

    int numbers(int tray, int sort, int n) {
        if (tray < 0 || tray > 3 || sort < 0 || sort > 3) {
            return -2;
        }
        if (n < 0 || n > 40) {
            return -3;
        }
        trays[tray] = sort == 0 ? new byte[n] : sort == 1 ? new short[n] : sort == 2 ? new int[n] : (Object) new long[n];
        return 0;
    }

    long write(int tray, int i, long v) {
        if (badTray(tray) != 0) {
            return badTray(tray);
        }
        if (i < 0 || i >= size(tray)) {
            return -7;
        }
        Object t = trays[tray];
        if (t instanceof byte[] b) {
            b[i] = (byte) v;
        } else if (t instanceof short[] s) {
            s[i] = (short) v;
        } else if (t instanceof int[] n) {
            n[i] = (int) v;
        } else if (t instanceof long[] l) {
            l[i] = v;
        }
        return number(tray, i);
    }

    int lists(int tray) {
        if (badTray(tray) != 0) {
            return badTray(tray);
        }
        int n = 0;
        while (n < size(tray) && n < world.sand.size()) {
            write(tray, n, world.sand.get(n));
            n++;
        }
        return n;
    }

    int image(int i) {
        if (i != 0 && i != 1) {
            return -2;
        }
        images[i] = world.copy();
        return 0;
    }

    int restore(int i) {
        if (i != 0 && i != 1) {
            return -2;
        }
        if (images[i] == null) {
            return -5;
        }
        world = images[i].copy();
        past.clear();
        return 0;
    }

    int count(int what) {
        int[] all = {world.told.rows, world.told.columns, world.houses.size(), world.standing(), world.moon, world.minute,
            world.allSand(), world.told.plots.size(), world.told.papers.size(), past.size(), tape.size(), world.told.lines};
        return what < 0 || what >= all.length ? -1 : all[what];
    }
}
