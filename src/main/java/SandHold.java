import java.util.Arrays;

/** A foreshore with sandcastles: told as a text, washed minute by minute, asked by numbers. */
public final class SandHold {
    public static final int NONE = -1;

    private static final int NO_SUCH = -2;
    private static final int CANNOT_BE = -3;
    private static final int TOO_MANY = -4;
    private static final int NOT_NOW = -5;
    private static final int TRAY_MISSING = -6;
    private static final int NO_NUMBER = -7;
    private static final int WHY_NOT = -10;
    private static final int FAULTY = -30;
    private static final int NO_BALANCE = -99000002;

    private static final int MOST_BYTES = 900;
    private static final int FED = 20;
    private static final int MOST_SIDE = 5;
    private static final int MOST_CELLS = 25;
    private static final int ROWS_FREE = 1 << MOST_SIDE;
    private static final int MOST_HIGH = 9;
    private static final int MOST_LEVEL = 10;
    private static final int OWNERS = 5;
    private static final int MOONS = 10;
    private static final int MOST_HOUSES = 6;
    private static final int MOST_PLOTS = 6;
    private static final int MOST_PAPERS = 6;
    private static final int MOST_DEBTS = 8;
    private static final int MOST_UNDONE = 10;
    private static final int MOST_AHEAD = 60;
    private static final int MOST_GALES = 8;
    private static final int MOST_LOOKED = 8;
    private static final int LOOKS = 100;
    private static final int TRAYS = 4;
    private static final int MOST_NUMBERS = 40;
    private static final int IMAGES = 2;

    private int taped;
    private final Reader reader;
    private final Land land;
    private final Coast now;
    private final Coast ahead;
    private final Sea sea;
    private final Past past;
    private final Tray[] trays;
    private final Land[] imageLands;
    private final Coast[] imageCoasts;
    private int imagesMade;
    private final Dike dike;
    private final Planner planner;
    private final Sheets sheets;
    private final int[] rowWorth;
    private final Gales gales;
    private int drawn;

    public SandHold() {
        reader = new Reader();
        land = new Land();
        now = new Coast();
        ahead = new Coast();
        sea = new Sea();
        past = new Past();
        trays = new Tray[TRAYS];
        for (int t = 0; t < TRAYS; t++) {
            trays[t] = new Tray();
        }
        imageLands = new Land[IMAGES];
        imageCoasts = new Coast[IMAGES];
        for (int i = 0; i < IMAGES; i++) {
            imageLands[i] = new Land();
            imageCoasts[i] = new Coast();
        }
        dike = new Dike();
        planner = new Planner();
        sheets = new Sheets();
        rowWorth = rowWorths();
        gales = new Gales();
    }

    // ---- the shore

    public int feed(int a, int b, int c, int d, int e) {
        if (taped + FED > MOST_BYTES) {
            return NOT_NOW;
        }
        putBytes(a);
        putBytes(b);
        putBytes(c);
        putBytes(d);
        putBytes(e);
        return taped;
    }

    public int shore(int n) {
        if (n < 0 || n > taped) {
            return CANNOT_BE;
        }
        boolean whole = reader.reads(n);
        taped = 0;
        if (!whole) {
            return FAULTY - reader.fault;
        }
        land.take(reader.land);
        now.take(reader.coast);
        past.forget();
        return land.lines;
    }

    public int fault(int what) {
        switch (what) {
            case 0: return reader.fault;
            case 1: return reader.place;
            default: return NONE;
        }
    }

    public int sand(int c) {
        return isCell(c) ? now.sand[c] : NO_SUCH;
    }

    public int house(int h, int what) {
        if (!isHouse(h)) {
            return NO_SUCH;
        }
        switch (what) {
            case 0: return now.houseCell[h];
            case 1: return now.houseOwner[h];
            case 2: return now.standing >> h & 1;
            default: return NO_SUCH;
        }
    }

    public int plot(int p, int what) {
        if (p < 0 || p >= land.plots) {
            return NO_SUCH;
        }
        switch (what) {
            case 0: return land.plotCell[p];
            case 1: return land.plotMinutes[p];
            case 2: return land.plotWorth[p];
            default: return NO_SUCH;
        }
    }

    public int level(int n) {
        return n < 0 || n > 999 ? CANNOT_BE : sea.tideAt(land, n, now.moon);
    }

    public int wet(int level) {
        return isLevel(level) ? Sea.wetAt(land, now.sand, level) : CANNOT_BE;
    }

    // ---- deeds

    public int minutes(int n) {
        if (n < 1 || n > 99) {
            return CANNOT_BE;
        }
        past.keep(now);
        for (int i = 0; i < n; i++) {
            sea.tick(land, now);
        }
        past.confirm();
        return Integer.bitCount(now.standing);
    }

    public int raise(int c) {
        past.keep(now);
        int why = now.heap(c, land.cells());
        return why != 0 ? WHY_NOT - why : confirmed(now.sand[c]);
    }

    public int dig(int c) {
        past.keep(now);
        int why = now.scoop(c, land.cells());
        return why != 0 ? WHY_NOT - why : confirmed(now.sand[c]);
    }

    public int build(int c, int owner) {
        past.keep(now);
        int why = now.settle(c, owner, land.cells());
        return why != 0 ? WHY_NOT - why : confirmed(now.houses - 1);
    }

    public int moon(int n) {
        past.keep(now);
        int before = now.moon;
        int why = now.changeMoon(n);
        return why != 0 ? WHY_NOT - why : confirmed(before);
    }

    public int undo(int n) {
        if (n < 1 || n > MOST_UNDONE || n > past.size) {
            return CANNOT_BE;
        }
        past.bringBack(n, now);
        return past.size;
    }

    public int judge(int tray, int what) {
        if (what < 0 || what > 3) {
            return NO_SUCH;
        }
        int refused = refusedTray(tray);
        if (refused != 0) {
            return refused;
        }
        ahead.take(now);
        int did = doDeeds(trays[tray], ahead);
        boolean all = did == trays[tray].size;
        switch (what) {
            case 0: return all ? NONE : did;
            case 1: return all ? 0 : sea.attempt(land, ahead, trays[tray].number[did]);
            case 2: return ahead.sandInAll(land.cells());
            default: return ahead.standing;
        }
    }

    public int perform(int tray) {
        int refused = refusedTray(tray);
        if (refused != 0) {
            return refused;
        }
        past.keep(now);
        return confirmedIfAny(doDeeds(trays[tray], now));
    }

    public int day(int seed, int times) {
        if (times < 1 || times > 40) {
            return CANNOT_BE;
        }
        past.keep(now);
        drawn = seed;
        int did = 0;
        for (int i = 0; i < times; i++) {
            if (sea.attempt(land, now, drawDeed()) == 0) {
                did++;
            }
        }
        return confirmedIfAny(did);
    }

    // ---- going on

    public int falls(int h) {
        if (!isHouse(h)) {
            return NO_SUCH;
        }
        if ((now.standing >> h & 1) == 0) {
            return NONE;
        }
        ahead.take(now);
        for (int m = 1; m <= MOST_AHEAD; m++) {
            sea.tick(land, ahead);
            if ((ahead.standing >> h & 1) == 0) {
                return m;
            }
        }
        return NONE;
    }

    public int stands(int n) {
        if (!isAhead(n)) {
            return CANNOT_BE;
        }
        goOn(n);
        return ahead.standing;
    }

    public int when(int c) {
        if (!isCell(c)) {
            return NO_SUCH;
        }
        ahead.take(now);
        for (int m = 1; m <= MOST_AHEAD; m++) {
            if ((sea.tick(land, ahead) >> c & 1) != 0) {
                return m;
            }
        }
        return NONE;
    }

    public int worn(int c, int n) {
        if (!isCell(c)) {
            return NO_SUCH;
        }
        if (!isAhead(n)) {
            return CANNOT_BE;
        }
        goOn(n);
        return ahead.sand[c];
    }

    public int last() {
        if (now.standing == 0) {
            return NONE;
        }
        ahead.take(now);
        int longest = now.standing;
        for (int m = 1; m <= MOST_AHEAD && ahead.standing != 0; m++) {
            longest = ahead.standing;
            sea.tick(land, ahead);
        }
        if (ahead.standing != 0) {
            longest = ahead.standing;
        }
        return Integer.numberOfTrailingZeros(longest);
    }

    public int owner(int n) {
        if (!isAhead(n)) {
            return CANNOT_BE;
        }
        goOn(n);
        int best = NONE;
        int most = 0;
        for (int o = 0; o < OWNERS; o++) {
            int has = ahead.housesOf(o);
            if (has > most) {
                most = has;
                best = o;
            }
        }
        return best;
    }

    // ---- dry

    public int least(int c, int level) {
        if (!isCell(c)) {
            return NO_SUCH;
        }
        return isLevel(level) ? dike.leastRaising(land, now.sand, c, level) : CANNOT_BE;
    }

    public int safe(int c) {
        if (!isCell(c)) {
            return NO_SUCH;
        }
        int safest = 0;
        for (int level = 1; level <= MOST_LEVEL; level++) {
            if ((Sea.wetAt(land, now.sand, level) >> c & 1) == 0) {
                safest = level;
            }
        }
        return safest;
    }

    public int worst() {
        int worst = 1;
        int most = -1;
        int before = Integer.bitCount(Sea.wetAt(land, now.sand, 0));
        for (int level = 1; level <= MOST_LEVEL; level++) {
            int wetted = Integer.bitCount(Sea.wetAt(land, now.sand, level));
            if (wetted - before > most) {
                most = wetted - before;
                worst = level;
            }
            before = wetted;
        }
        return worst;
    }

    // ---- plots

    public int plan(int what) {
        if (what < 0 || what > 1) {
            return NO_SUCH;
        }
        setDeadlines();
        int chosen = planner.bestSet(land);
        return what == 0 ? Planner.worthOf(land, chosen) : chosen;
    }

    public int order(int i) {
        if (i < 0) {
            return CANNOT_BE;
        }
        setDeadlines();
        return planner.inOrder(land, planner.bestSet(land), i);
    }

    // ---- papers

    public int colours(int what) {
        if (what != 0 && (what < 10 || what - 10 >= land.papers)) {
            return NO_SUCH;
        }
        int fewest = sheets.paint(land);
        return what == 0 ? fewest : sheets.colour[what - 10];
    }

    public int clique(int what) {
        if (what < 0 || what > 1) {
            return NO_SUCH;
        }
        int most = Sheets.greatestClique(land);
        return what == 0 ? Integer.bitCount(most) : most;
    }

    public int papers(int c) {
        if (!isCell(c)) {
            return NO_SUCH;
        }
        int over = 0;
        for (int p = 0; p < land.papers; p++) {
            over |= (land.paperCells[p] >> c & 1) << p;
        }
        return over;
    }

    // ---- debts

    public int balance(int owner) {
        return owner < 0 || owner >= OWNERS ? NO_BALANCE : land.balances[owner];
    }

    public int payments() {
        return land.fewestPayments();
    }

    // ---- looked

    public int moons(int tray) {
        int refused = refusedLooks(tray);
        return refused != 0 ? refused : moonsSeen(trays[tray]);
    }

    public int look(int tray) {
        int refused = refusedLooks(tray);
        if (refused != 0) {
            return refused;
        }
        int seen = moonsSeen(trays[tray]);
        if (seen == 0) {
            return NONE;
        }
        int best = 0;
        int fewest = MOONS + 1;
        for (int m = 0; m < LOOKS; m++) {
            int alike = sea.mostAlike(land, now.minute + m, seen);
            if (alike < fewest) {
                fewest = alike;
                best = m;
            }
        }
        return best;
    }

    // ---- by turns

    public int puts(int row) {
        if (row < 0 || row >= land.rows) {
            return NO_SUCH;
        }
        int free = freeIn(row);
        for (int column = 0; column < land.columns; column++) {
            if ((free >> column & 1) != 0 && rowWorth[afterPut(free, column)] == 0) {
                return row * land.columns + column;
            }
        }
        return NONE;
    }

    public int wins() {
        int together = 0;
        for (int row = 0; row < land.rows; row++) {
            together ^= rowWorth[freeIn(row)];
        }
        return together != 0 ? 1 : 0;
    }

    // ---- chances

    public int chance(int h, int n, int what) {
        if (!isHouse(h) || what < 0 || what > 1) {
            return NO_SUCH;
        }
        if (n < 0 || n > MOST_GALES) {
            return CANNOT_BE;
        }
        gales.weigh(land, now, sea, n);
        return Gales.lowest(gales.stood[h], n, what);
    }

    public int mean(int n, int what) {
        if (what < 0 || what > 1) {
            return NO_SUCH;
        }
        if (n < 0 || n > MOST_GALES) {
            return CANNOT_BE;
        }
        gales.weigh(land, now, sea, n);
        long all = 0;
        for (int h = 0; h < MOST_HOUSES; h++) {
            all += gales.stood[h];
        }
        return Gales.lowest(all, n, what);
    }

    // ---- trays, images

    public int numbers(int tray, int sort, int n) {
        if (!isTray(tray) || sort < 0 || sort > 3) {
            return NO_SUCH;
        }
        if (n < 0 || n > MOST_NUMBERS) {
            return CANNOT_BE;
        }
        trays[tray].lay(sort, n);
        return 0;
    }

    public long write(int tray, int i, long v) {
        int refused = refusedTray(tray);
        if (refused != 0) {
            return refused;
        }
        if (i < 0 || i >= trays[tray].size) {
            return NO_NUMBER;
        }
        return trays[tray].put(i, v);
    }

    public int lists(int tray) {
        int refused = refusedTray(tray);
        if (refused != 0) {
            return refused;
        }
        int places = Math.min(trays[tray].size, land.cells());
        for (int i = 0; i < places; i++) {
            trays[tray].put(i, now.sand[i]);
        }
        return places;
    }

    public int image(int i) {
        if (!isImage(i)) {
            return NO_SUCH;
        }
        imageLands[i].take(land);
        imageCoasts[i].take(now);
        imagesMade |= 1 << i;
        return 0;
    }

    public int restore(int i) {
        if (!isImage(i)) {
            return NO_SUCH;
        }
        if ((imagesMade >> i & 1) == 0) {
            return NOT_NOW;
        }
        land.take(imageLands[i]);
        now.take(imageCoasts[i]);
        past.forget();
        return 0;
    }

    public int count(int what) {
        switch (what) {
            case 0: return land.rows;
            case 1: return land.columns;
            case 2: return now.houses;
            case 3: return now.standing;
            case 4: return now.moon;
            case 5: return now.minute;
            case 6: return now.sandInAll(land.cells());
            case 7: return land.plots;
            case 8: return land.papers;
            case 9: return past.size;
            case 10: return taped;
            case 11: return land.lines;
            default: return NONE;
        }
    }

    // ---- what the calls share

    private boolean isCell(int c) {
        return c >= 0 && c < land.cells();
    }

    private boolean isHouse(int h) {
        return h >= 0 && h < now.houses;
    }

    private static boolean isLevel(long level) {
        return level >= 0 && level <= MOST_LEVEL;
    }

    private static boolean isAhead(int n) {
        return n >= 0 && n <= MOST_AHEAD;
    }

    private static boolean isTray(int tray) {
        return tray >= 0 && tray < TRAYS;
    }

    private static boolean isImage(int i) {
        return i >= 0 && i < IMAGES;
    }

    private void putBytes(int four) {
        for (int shift = 24; shift >= 0 && taped < MOST_BYTES; shift -= 8) {
            reader.tape[taped] = (byte) (four >> shift);
            taped++;
        }
    }

    private int confirmed(int answer) {
        past.confirm();
        return answer;
    }

    private int confirmedIfAny(int did) {
        return did > 0 ? confirmed(did) : did;
    }

    private int refusedTray(int tray) {
        if (!isTray(tray)) {
            return NO_SUCH;
        }
        return trays[tray].size == NONE ? TRAY_MISSING : 0;
    }

    private int refusedLooks(int tray) {
        int refused = refusedTray(tray);
        if (refused != 0) {
            return refused;
        }
        Tray looks = trays[tray];
        if (looks.size < 1 || looks.size > MOST_LOOKED) {
            return TOO_MANY;
        }
        for (int i = 0; i < looks.size; i++) {
            if (looks.number[i] < 0 || !isLevel(looks.number[i] / LOOKS)) {
                return CANNOT_BE;
            }
        }
        return 0;
    }

    private int moonsSeen(Tray looks) {
        int seen = 0;
        for (int moon = 0; moon < MOONS; moon++) {
            boolean fits = true;
            for (int i = 0; i < looks.size && fits; i++) {
                int told = (int) looks.number[i];
                fits = sea.tideAt(land, now.minute + told % LOOKS, moon) == told / LOOKS;
            }
            if (fits) {
                seen |= 1 << moon;
            }
        }
        return seen;
    }

    private int doDeeds(Tray deeds, Coast coast) {
        int did = 0;
        while (did < deeds.size && sea.attempt(land, coast, deeds.number[did]) == 0) {
            did++;
        }
        return did;
    }

    private void goOn(int n) {
        ahead.take(now);
        for (int m = 0; m < n; m++) {
            sea.tick(land, ahead);
        }
    }

    private void setDeadlines() {
        Arrays.fill(planner.deadline, MOST_AHEAD);
        ahead.take(now);
        int wetted = 0;
        for (int m = 1; m <= MOST_AHEAD && land.plots > 0; m++) {
            int wetNow = sea.tick(land, ahead);
            for (int p = 0; p < land.plots; p++) {
                if (((wetNow & ~wetted) >> land.plotCell[p] & 1) != 0) {
                    planner.deadline[p] = m - 1;
                }
            }
            wetted |= wetNow;
        }
    }

    private int draw(int sides) {
        drawn = 1103515245 * drawn + 12345;
        return sides > 0 ? (drawn >>> 16) % sides : 0;
    }

    /** The next deed of a day, as a tray would tell it. */
    private int drawDeed() {
        switch (draw(6)) {
            case 2: return 100 + draw(25);
            case 3: return 200 + draw(25);
            case 4: {
                int cell = draw(25);
                return 1000 + 10 * cell + draw(5);
            }
            case 5: return 10 + draw(10);
            default: return 0;
        }
    }

    /** What each set of free cells in a row is worth: as a heap of so many in nim. */
    private static int[] rowWorths() {
        int[] worth = new int[ROWS_FREE];
        // A put takes bits away, so it leads to a smaller set: that one's worth is there already.
        for (int free = 1; free < ROWS_FREE; free++) {
            int reached = 0;
            for (int c = 0; c < MOST_SIDE; c++) {
                if ((free >> c & 1) != 0) {
                    reached |= 1 << worth[afterPut(free, c)];
                }
            }
            worth[free] = Integer.numberOfTrailingZeros(~reached);
        }
        return worth;
    }

    private static int afterPut(int free, int c) {
        return free & ~(1 << c | 1 << c + 1 | 1 << c >> 1);
    }

    private int freeIn(int row) {
        int all = (1 << land.columns) - 1;
        int built = now.builtCells() >> row * land.columns & all;
        return all & ~(built | built << 1 | built >> 1);
    }

    /** What the text tells and no deed changes. */
    private static final class Land {
        int rows;
        int columns;
        int leftmost;
        int lines;
        int gale;
        int plots;
        int papers;
        int coded;
        int tideFrom;
        int tideTo;
        int washesFrom;
        int washesTo;
        final int[] plotCell;
        final int[] plotMinutes;
        final int[] plotWorth;
        final int[] paperCells;
        final int[] balances;
        final int[] code;

        Land() {
            rows = 1;
            columns = 1;
            leftmost = 1;
            plotCell = new int[MOST_PLOTS];
            plotMinutes = new int[MOST_PLOTS];
            plotWorth = new int[MOST_PLOTS];
            paperCells = new int[MOST_PAPERS];
            balances = new int[OWNERS];
            code = new int[MOST_BYTES];
        }

        int cells() {
            return rows * columns;
        }

        void setSize(int high, int wide) {
            rows = high;
            columns = wide;
            leftmost = 0;
            for (int row = 0; row < rows; row++) {
                leftmost |= 1 << row * columns;
            }
        }

        void clear() {
            setSize(1, 1);
            lines = 0;
            gale = 0;
            plots = 0;
            papers = 0;
            coded = 0;
            tideFrom = 0;
            tideTo = 0;
            washesFrom = 0;
            washesTo = 0;
            Arrays.fill(balances, 0);
        }

        void take(Land other) {
            rows = other.rows;
            columns = other.columns;
            leftmost = other.leftmost;
            lines = other.lines;
            gale = other.gale;
            plots = other.plots;
            papers = other.papers;
            coded = other.coded;
            tideFrom = other.tideFrom;
            tideTo = other.tideTo;
            washesFrom = other.washesFrom;
            washesTo = other.washesTo;
            System.arraycopy(other.plotCell, 0, plotCell, 0, MOST_PLOTS);
            System.arraycopy(other.plotMinutes, 0, plotMinutes, 0, MOST_PLOTS);
            System.arraycopy(other.plotWorth, 0, plotWorth, 0, MOST_PLOTS);
            System.arraycopy(other.paperCells, 0, paperCells, 0, MOST_PAPERS);
            System.arraycopy(other.balances, 0, balances, 0, OWNERS);
            System.arraycopy(other.code, 0, code, 0, coded);
        }

        void addPlot(int cell, int minutes, int worth) {
            if (plots < MOST_PLOTS) {
                plotCell[plots] = cell;
                plotMinutes[plots] = minutes;
                plotWorth[plots] = worth;
                plots++;
            }
        }

        void addPaper(int a, int b) {
            if (papers < MOST_PAPERS && columns > 0) {
                paperCells[papers] = cellsBetween(a, b);
                papers++;
            }
        }

        private int cellsBetween(int a, int b) {
            int top = Math.min(a / columns, b / columns);
            int bottom = Math.max(a / columns, b / columns);
            int left = Math.min(a % columns, b % columns);
            int right = Math.max(a % columns, b % columns);
            int over = 0;
            for (int row = top; row <= bottom; row++) {
                for (int column = left; column <= right; column++) {
                    over |= 1 << row * columns + column;
                }
            }
            return over;
        }

        void emit(int order) {
            if (coded < MOST_BYTES) {
                code[coded] = order;
                coded++;
            }
        }

        /** Owners whose balances come to 0 settle among them in one payment less than they are: so the most such groups. */
        int fewestPayments() {
            return OWNERS - mostGroups((1 << OWNERS) - 1);
        }

        // Each level takes one owner away at the least, so there are five levels at most.
        private int mostGroups(int left) {
            int most = 0;
            for (int group = 1; group <= left; group++) {
                boolean within = (group & ~left) == 0 && (group & left & -left) != 0;
                if (within && balanceOf(group) == 0) {
                    most = Math.max(most, 1 + mostGroups(left & ~group));
                }
            }
            return most;
        }

        private int balanceOf(int group) {
            int sum = 0;
            for (int o = 0; o < OWNERS; o++) {
                if ((group >> o & 1) != 0) {
                    sum += balances[o];
                }
            }
            return sum;
        }
    }

    /** What deeds change, and undoing brings back. */
    private static final class Coast {
        final int[] sand;
        final int[] houseCell;
        final int[] houseOwner;
        int houses;
        int standing;
        int moon;
        int minute;

        Coast() {
            sand = new int[MOST_CELLS];
            houseCell = new int[MOST_HOUSES];
            houseOwner = new int[MOST_HOUSES];
        }

        void take(Coast other) {
            System.arraycopy(other.sand, 0, sand, 0, MOST_CELLS);
            System.arraycopy(other.houseCell, 0, houseCell, 0, MOST_HOUSES);
            System.arraycopy(other.houseOwner, 0, houseOwner, 0, MOST_HOUSES);
            houses = other.houses;
            standing = other.standing;
            moon = other.moon;
            minute = other.minute;
        }

        void clear() {
            Arrays.fill(sand, 0);
            houses = 0;
            standing = 0;
            moon = 0;
            minute = 0;
        }

        int heap(int c, int cells) {
            if (c < 0 || c >= cells || c >= MOST_CELLS) {
                return 1;
            }
            if (sand[c] >= MOST_HIGH) {
                return 2;
            }
            sand[c]++;
            return 0;
        }

        int scoop(int c, int cells) {
            if (c < 0 || c >= cells || c >= MOST_CELLS) {
                return 1;
            }
            if (sand[c] <= 0) {
                return 2;
            }
            sand[c]--;
            return 0;
        }

        int settle(int c, int owner, int cells) {
            if (c < 0 || c >= cells || owner < 0 || owner >= OWNERS) {
                return 1;
            }
            if (houses >= MOST_HOUSES) {
                return 2;
            }
            if ((builtCells() >> c & 1) != 0) {
                return 3;
            }
            houseCell[houses] = c;
            houseOwner[houses] = owner;
            standing |= 1 << houses;
            houses++;
            return 0;
        }

        int changeMoon(int n) {
            if (n < 0 || n >= MOONS) {
                return 1;
            }
            moon = n;
            return 0;
        }

        int builtCells() {
            int built = 0;
            for (int h = 0; h < houses; h++) {
                if ((standing >> h & 1) != 0) {
                    built |= 1 << houseCell[h];
                }
            }
            return built;
        }

        void fell(int wetCells) {
            for (int h = 0; h < houses; h++) {
                if ((wetCells >> houseCell[h] & 1) != 0) {
                    standing &= ~(1 << h);
                }
            }
        }

        int housesOf(int owner) {
            int has = 0;
            for (int h = 0; h < houses; h++) {
                if (houseOwner[h] == owner) {
                    has += standing >> h & 1;
                }
            }
            return has;
        }

        int sandInAll(int cells) {
            int all = 0;
            for (int c = 0; c < cells && c < MOST_CELLS; c++) {
                all += sand[c];
            }
            return all;
        }
    }

    /** The orders a law is made of: below 1000 a number itself, from NAME on what a name stands for. */
    private static final class Law {
        static final int ADD = 1000;
        static final int SUBTRACT = 1001;
        static final int MULTIPLY = 1002;
        static final int EQUAL = 1003;
        static final int LESS = 1004;
        static final int MORE = 1005;
        static final int AND = 1006;
        static final int OR = 1007;
        static final int NOT = 1008;
        static final int CHOOSE = 1009;
        static final int NAME = 1010;
        static final int MINUTE = 0;
        static final int MOON = 1;
        static final int ROW = 2;
        static final int HEIGHT = 3;
        static final int LEVEL = 4;
        static final int NEAR = 5;
        static final int NAMES = 6;
        private static final int BOUND = 1000000;
        // Six nestings leave some five values waiting each: this is far above.
        private static final int DEPTH = 100;

        final int[] named;
        private final int[] stack;

        Law() {
            named = new int[NAMES];
            stack = new int[DEPTH];
        }

        int tell(int[] code, int from, int to) {
            int top = 0;
            for (int at = from; at < to && at < code.length && top < DEPTH; at++) {
                int order = code[at];
                if (order < ADD) {
                    stack[top++] = order;
                } else if (order >= NAME) {
                    stack[top++] = order - NAME < NAMES ? named[order - NAME] : 0;
                } else if (order == NOT && top > 0) {
                    stack[top - 1] = 1 - stack[top - 1];
                } else if (order == CHOOSE && top > 2) {
                    top -= 2;
                    stack[top - 1] = stack[top - 1] != 0 ? stack[top] : stack[top + 1];
                } else if (top > 1) {
                    top--;
                    long kept = Math.max(-BOUND, Math.min(BOUND, joined(order, stack[top - 1], stack[top])));
                    stack[top - 1] = (int) kept;
                }
            }
            return top > 0 ? stack[top - 1] : 0;
        }

        private static long joined(int order, long a, long b) {
            switch (order) {
                case ADD: return a + b;
                case SUBTRACT: return a - b;
                case MULTIPLY: return a * b;
                case EQUAL: return a == b ? 1 : 0;
                case LESS: return a < b ? 1 : 0;
                case MORE: return a > b ? 1 : 0;
                case AND: return a & b;
                default: return a | b;
            }
        }
    }

    /** How high the sea is, what it wets, and what a deed or a minute does to a coast. */
    private static final class Sea {
        private final Law law;
        private final int[] washed;
        private final int[] alike;

        Sea() {
            law = new Law();
            washed = new int[MOST_CELLS];
            alike = new int[MOST_LEVEL + 1];
        }

        int tideAt(Land land, int minute, int moon) {
            if (land.tideFrom >= land.tideTo) {
                int rest = Math.floorMod(minute, 18);
                return rest > 9 ? 18 - rest : rest;
            }
            law.named[Law.MINUTE] = minute;
            law.named[Law.MOON] = moon;
            int told = law.tell(land.code, land.tideFrom, land.tideTo);
            return Math.max(0, Math.min(MOST_LEVEL, told));
        }

        static int wetAt(Land land, int[] sand, int level) {
            int low = 0;
            int cells = Math.min(land.cells(), sand.length);
            for (int c = 0; c < cells; c++) {
                if (sand[c] < level) {
                    low |= 1 << c;
                }
            }
            int wetCells = low & (1 << land.columns) - 1;
            for (int i = 0; i < MOST_CELLS; i++) {
                int wider = wetCells | besides(land, wetCells) & low;
                if (wider == wetCells) {
                    break;
                }
                wetCells = wider;
            }
            return wetCells;
        }

        /** The cells side by side with any of these; bits behind the last cell are the caller's to cut. */
        static int besides(Land land, int cells) {
            int rightmost = land.leftmost << land.columns - 1;
            return cells << land.columns | cells >> land.columns
                | (cells & ~rightmost) << 1 | (cells & ~land.leftmost) >> 1;
        }

        /** A minute goes by: which cells were wet in it. */
        int tick(Land land, Coast coast) {
            return tickAt(land, coast, tideAt(land, coast.minute + 1, coast.moon));
        }

        int tickAt(Land land, Coast coast, int level) {
            coast.minute++;
            int wetCells = wetAt(land, coast.sand, level);
            coast.fell(wetCells);
            if (wetCells != 0 && land.washesFrom < land.washesTo) {
                wash(land, coast, level, wetCells);
            }
            return wetCells;
        }

        private void wash(Land land, Coast coast, int level, int wetCells) {
            if (land.columns < 1) {
                return;
            }
            int[] named = law.named;
            named[Law.MINUTE] = coast.minute;
            named[Law.MOON] = coast.moon;
            named[Law.LEVEL] = level;
            for (int c = 0; c < MOST_CELLS; c++) {
                washed[c] = coast.sand[c];
                if ((wetCells >> c & 1) != 0) {
                    named[Law.ROW] = c / land.columns;
                    named[Law.HEIGHT] = coast.sand[c];
                    named[Law.NEAR] = Integer.bitCount(besides(land, 1 << c) & wetCells);
                    int told = law.tell(land.code, land.washesFrom, land.washesTo);
                    washed[c] = Math.max(0, Math.min(MOST_HIGH, told));
                }
            }
            System.arraycopy(washed, 0, coast.sand, 0, MOST_CELLS);
        }

        /** Does a deed as a tray tells it: 0, or why it can't be. */
        int attempt(Land land, Coast coast, long deed) {
            if (deed == 0) {
                tick(land, coast);
                return 0;
            }
            if (deed < 10 || deed >= 2000) {
                return 1;
            }
            int v = (int) deed;
            if (v < 20) {
                return coast.changeMoon(v - 10);
            }
            if (v >= 1000) {
                return coast.settle((v - 1000) / 10, v % 10, land.cells());
            }
            if (v >= 100 && v < 200) {
                return coast.heap(v - 100, land.cells());
            }
            return v >= 200 && v < 300 ? coast.scoop(v - 200, land.cells()) : 1;
        }

        /** By how many of these moons, at the most, the level is the same in that minute. */
        int mostAlike(Land land, int minute, int moonSet) {
            Arrays.fill(alike, 0);
            int most = 0;
            for (int moon = 0; moon < MOONS; moon++) {
                if ((moonSet >> moon & 1) != 0) {
                    int level = tideAt(land, minute, moon);
                    alike[level]++;
                    most = Math.max(most, alike[level]);
                }
            }
            return most;
        }
    }

    /** Reads a text into a land and a coast of its own, up to the first fault. */
    private static final class Reader {
        private static final int END = 0;
        private static final int BAD = 1;
        private static final int WORD = 2;
        private static final int NUMBER = 3;
        private static final int SIGN = 4;
        private static final int MOST_DIGITS = 3;
        private static final int MOST_WITHIN = 6;
        private static final String SIGNS = ";:+-*()[]=<>";

        final Land land;
        final Coast coast;
        int fault;
        int place;
        final byte[] tape;
        private int length;
        private int from;
        private int to;
        private int kind;
        private int debts;
        private boolean inWashes;

        Reader() {
            tape = new byte[MOST_BYTES];
            place = NONE;
            land = new Land();
            coast = new Coast();
        }

        boolean reads(int n) {
            length = Math.max(0, Math.min(n, tape.length));
            to = 0;
            fault = 0;
            place = NONE;
            debts = 0;
            land.clear();
            coast.clear();
            step();
            readHead();
            for (int i = 0; i < MOST_BYTES && fault == 0 && kind != END; i++) {
                readLine();
                expectSign(';');
                land.lines++;
            }
            return fault == 0;
        }

        private void step() {
            from = to;
            while (from < length && (tape[from] == 10 || tape[from] == 32)) {
                from++;
            }
            to = from;
            if (from >= length) {
                kind = END;
            } else if (tape[from] >= 'a' && tape[from] <= 'z') {
                pass('a', 'z');
                kind = WORD;
            } else if (tape[from] >= '0' && tape[from] <= '9') {
                pass('0', '9');
                kind = to - from <= MOST_DIGITS ? NUMBER : BAD;
            } else {
                to++;
                kind = SIGNS.indexOf((char) (tape[from] & 255)) >= 0 ? SIGN : BAD;
            }
        }

        private void pass(char low, char high) {
            while (to < length && tape[to] >= low && tape[to] <= high) {
                to++;
            }
        }

        private int numberHere() {
            int value = 0;
            for (int i = from; i < to && i < length; i++) {
                value = value * 10 + tape[i] - '0';
            }
            return value;
        }

        private void fail(int what) {
            if (fault == 0) {
                fault = kind == BAD ? 1 : what;
                place = from;
            }
        }

        private boolean atWord(String word) {
            if (kind != WORD || to - from != word.length()) {
                return false;
            }
            for (int i = 0; i < word.length() && from + i < length; i++) {
                if (tape[from + i] != word.charAt(i)) {
                    return false;
                }
            }
            return true;
        }

        private boolean atSign(char sign) {
            return kind == SIGN && from < length && tape[from] == sign;
        }

        private void expectWord(String word) {
            if (fault == 0 && atWord(word)) {
                step();
            } else {
                fail(2);
            }
        }

        private void expectSign(char sign) {
            if (fault == 0 && atSign(sign)) {
                step();
            } else {
                fail(2);
            }
        }

        /** An N of these bounds that isn't one of the barred, told as bits. */
        private int expectNumber(int low, int high, int barred) {
            if (fault != 0) {
                return low;
            }
            if (kind != NUMBER) {
                fail(2);
                return low;
            }
            int value = numberHere();
            if (value < low || value > high || (barred >> value & 1) != 0) {
                fail(3);
                return low;
            }
            step();
            return value;
        }

        private int expectCell(int barred) {
            return expectNumber(0, land.cells() - 1, barred);
        }

        private int expectOwner(int barred) {
            return expectNumber(0, OWNERS - 1, barred);
        }

        private void readHead() {
            expectWord("shore");
            expectWord("rows");
            int rows = expectNumber(1, MOST_SIDE, 0);
            expectWord("columns");
            int columns = expectNumber(1, MOST_SIDE, 0);
            expectSign(';');
            land.setSize(rows, columns);
            land.lines = 1;
            for (int c = 0; c < land.cells() && c < MOST_CELLS; c++) {
                coast.sand[c] = c / columns;
            }
        }

        private void readLine() {
            if (atWord("sand")) {
                readSand();
            } else if (atWord("house")) {
                readHouse();
            } else if (atWord("plot")) {
                readPlot();
            } else if (atWord("paper")) {
                readPaper();
            } else if (atWord("owes")) {
                readOwes();
            } else if (atWord("moon")) {
                step();
                coast.moon = expectNumber(0, MOONS - 1, 0);
            } else if (atWord("gale")) {
                step();
                land.gale = expectNumber(0, 10, 0);
            } else if (atWord("tide")) {
                readLaw(false);
            } else if (atWord("washes")) {
                readLaw(true);
            } else {
                fail(2);
            }
        }

        private void readSand() {
            step();
            int c = expectCell(0);
            int high = expectNumber(0, MOST_HIGH, 0);
            if (fault == 0 && c < MOST_CELLS) {
                coast.sand[c] = high;
            }
        }

        private void readHouse() {
            if (coast.houses >= MOST_HOUSES) {
                fail(4);
                return;
            }
            step();
            int c = expectCell(coast.builtCells());
            expectWord("owner");
            int owner = expectOwner(0);
            if (fault == 0) {
                coast.settle(c, owner, land.cells());
            }
        }

        private void readPlot() {
            if (land.plots >= MOST_PLOTS) {
                fail(4);
                return;
            }
            step();
            int c = expectCell(0);
            expectWord("minutes");
            int minutes = expectNumber(1, 9, 0);
            expectWord("worth");
            int worth = expectNumber(0, 9, 0);
            if (fault == 0) {
                land.addPlot(c, minutes, worth);
            }
        }

        private void readPaper() {
            if (land.papers >= MOST_PAPERS) {
                fail(4);
                return;
            }
            step();
            int a = expectCell(0);
            int b = expectCell(0);
            if (fault == 0) {
                land.addPaper(a, b);
            }
        }

        private void readOwes() {
            if (debts >= MOST_DEBTS) {
                fail(4);
                return;
            }
            debts++;
            step();
            int who = expectOwner(0);
            int whom = expectOwner(1 << who);
            int much = expectNumber(0, 99, 0);
            if (fault == 0) {
                land.balances[who] -= much;
                land.balances[whom] += much;
            }
        }

        private void readLaw(boolean washes) {
            int start = land.coded;
            inWashes = washes;
            step();
            expectSign(':');
            readSum(0);
            if (washes) {
                land.washesFrom = start;
                land.washesTo = land.coded;
            } else {
                land.tideFrom = start;
                land.tideTo = land.coded;
            }
        }

        // Each loop below takes a token a turn, so the text's length is its bound.

        private void readSum(int within) {
            readTerm(within);
            for (int i = 0; i < MOST_BYTES && fault == 0 && (atSign('+') || atSign('-')); i++) {
                int order = atSign('+') ? Law.ADD : Law.SUBTRACT;
                step();
                readTerm(within);
                land.emit(order);
            }
        }

        private void readTerm(int within) {
            readAtom(within);
            for (int i = 0; i < MOST_BYTES && fault == 0 && atSign('*'); i++) {
                step();
                readAtom(within);
                land.emit(Law.MULTIPLY);
            }
        }

        private void readAtom(int within) {
            if (fault != 0) {
                return;
            }
            int name = nameHere();
            if (kind == NUMBER) {
                land.emit(numberHere());
                step();
            } else if (name != NONE) {
                land.emit(Law.NAME + name);
                step();
            } else if (atSign('(')) {
                if (goesDeeper(within)) {
                    readSum(within + 1);
                    expectSign(')');
                }
            } else if (atWord("if")) {
                if (goesDeeper(within)) {
                    readChoice(within + 1);
                }
            } else {
                fail(2);
            }
        }

        private int nameHere() {
            if (atWord("minute")) {
                return Law.MINUTE;
            }
            if (atWord("moon")) {
                return Law.MOON;
            }
            if (!inWashes) {
                return NONE;
            }
            if (atWord("row")) {
                return Law.ROW;
            }
            if (atWord("height")) {
                return Law.HEIGHT;
            }
            if (atWord("level")) {
                return Law.LEVEL;
            }
            return atWord("near") ? Law.NEAR : NONE;
        }

        private boolean goesDeeper(int within) {
            if (within >= MOST_WITHIN) {
                fail(4);
                return false;
            }
            step();
            return true;
        }

        private void readChoice(int within) {
            readTruth(within);
            expectWord("then");
            readSum(within);
            expectWord("else");
            readSum(within);
            expectWord("end");
            land.emit(Law.CHOOSE);
        }

        private void readTruth(int within) {
            readBoth(within);
            for (int i = 0; i < MOST_BYTES && fault == 0 && atWord("or"); i++) {
                step();
                readBoth(within);
                land.emit(Law.OR);
            }
        }

        private void readBoth(int within) {
            readUnit(within);
            for (int i = 0; i < MOST_BYTES && fault == 0 && atWord("and"); i++) {
                step();
                readUnit(within);
                land.emit(Law.AND);
            }
        }

        private void readUnit(int within) {
            if (fault != 0) {
                return;
            }
            if (atWord("not")) {
                if (goesDeeper(within)) {
                    readUnit(within + 1);
                    land.emit(Law.NOT);
                }
            } else if (atSign('[')) {
                if (goesDeeper(within)) {
                    readTruth(within + 1);
                    expectSign(']');
                }
            } else {
                readComparison(within);
            }
        }

        private void readComparison(int within) {
            readSum(within);
            int order = Law.EQUAL;
            if (atSign('<')) {
                order = Law.LESS;
            } else if (atSign('>')) {
                order = Law.MORE;
            } else if (!atSign('=')) {
                fail(2);
            }
            if (fault == 0) {
                step();
                readSum(within);
                land.emit(order);
            }
        }
    }

    /** The coasts that undoing brings back; one place more than can be undone, so that a refused call costs none. */
    private static final class Past {
        private static final int PLACES = MOST_UNDONE + 1;

        int size;
        private int next;
        private final Coast[] coasts;

        Past() {
            coasts = new Coast[PLACES];
            for (int i = 0; i < PLACES; i++) {
                coasts[i] = new Coast();
            }
        }

        void keep(Coast coast) {
            coasts[next].take(coast);
        }

        void confirm() {
            next = (next + 1) % PLACES;
            size = Math.min(size + 1, MOST_UNDONE);
        }

        void bringBack(int n, Coast coast) {
            next = Math.floorMod(next - n, PLACES);
            size -= n;
            coast.take(coasts[next]);
        }

        void forget() {
            size = 0;
        }
    }

    /** Numbers of 8, 16, 32 or 64 bits. */
    private static final class Tray {
        int size;
        private int sort;
        final long[] number;

        Tray() {
            size = NONE;
            number = new long[MOST_NUMBERS];
        }

        void lay(int kind, int n) {
            sort = kind;
            size = n;
            Arrays.fill(number, 0);
        }

        long put(int i, long v) {
            if (i < 0 || i >= MOST_NUMBERS) {
                return NO_NUMBER;
            }
            switch (sort) {
                case 0: number[i] = (byte) v; break;
                case 1: number[i] = (short) v; break;
                case 2: number[i] = (int) v; break;
                default: number[i] = v; break;
            }
            return number[i];
        }
    }

    /** The least raising is a least cut between sea and cell: what flows from there to here at the most. */
    private static final class Dike {
        private static final int SIDES = 2 * MOST_CELLS;

        private final int[] room;
        private final int[] through;
        private final int[] across;
        private final int[] cameFrom;
        private final int[] queue;
        private int waiting;

        Dike() {
            room = new int[MOST_CELLS];
            through = new int[MOST_CELLS];
            across = new int[MOST_CELLS * MOST_CELLS];
            cameFrom = new int[SIDES];
            queue = new int[SIDES];
        }

        int leastRaising(Land land, int[] sand, int c, int level) {
            if (c < 0 || c >= MOST_CELLS) {
                return 0;
            }
            for (int i = 0; i < MOST_CELLS && i < sand.length; i++) {
                room[i] = Math.max(0, level - sand[i]);
            }
            Arrays.fill(through, 0);
            Arrays.fill(across, 0);
            int flow = 0;
            while (flow < MOST_LEVEL && reaches(land, c)) {
                widen(2 * c + 1);
                flow++;
            }
            return flow;
        }

        // Side 2c is where water comes into cell c, side 2c + 1 where it leaves.

        private boolean reaches(Land land, int c) {
            Arrays.fill(cameFrom, NONE);
            waiting = 0;
            for (int i = 0; i < land.columns; i++) {
                enqueue(2 * i, 2 * i);
            }
            for (int i = 0; i < SIDES && i < waiting; i++) {
                if (queue[i] % 2 == 0) {
                    spreadIn(land, queue[i] / 2);
                } else {
                    spreadOut(land, queue[i] / 2);
                }
            }
            return cameFrom[2 * c + 1] != NONE;
        }

        private void enqueue(int side, int by) {
            if (cameFrom[side] == NONE && waiting < SIDES) {
                cameFrom[side] = by;
                queue[waiting] = side;
                waiting++;
            }
        }

        private void spreadIn(Land land, int c) {
            if (through[c] < room[c]) {
                enqueue(2 * c + 1, 2 * c);
            }
            int besides = Sea.besides(land, 1 << c);
            for (int b = 0; b < land.cells(); b++) {
                if ((besides >> b & 1) != 0 && across[b * MOST_CELLS + c] > 0) {
                    enqueue(2 * b + 1, 2 * c);
                }
            }
        }

        private void spreadOut(Land land, int c) {
            if (through[c] > 0) {
                enqueue(2 * c, 2 * c + 1);
            }
            int besides = Sea.besides(land, 1 << c);
            for (int b = 0; b < land.cells(); b++) {
                if ((besides >> b & 1) != 0) {
                    enqueue(2 * b, 2 * c + 1);
                }
            }
        }

        /** One more flows along the way that was found, back from its end. */
        private void widen(int end) {
            int side = end;
            for (int i = 0; i < SIDES && cameFrom[side] != side && cameFrom[side] != NONE; i++) {
                int by = cameFrom[side];
                int a = by / 2;
                int b = side / 2;
                if (a == b) {
                    through[a] += by % 2 == 0 ? 1 : -1;
                } else if (by % 2 == 1) {
                    across[a * MOST_CELLS + b]++;
                } else {
                    across[b * MOST_CELLS + a]--;
                }
                side = by;
            }
        }
    }

    /** Which plots to build, and in which order. */
    private static final class Planner {
        final int[] deadline;

        Planner() {
            deadline = new int[MOST_PLOTS];
        }

        int bestSet(Land land) {
            int best = 0;
            int most = 0;
            for (int set = 1; set < 1 << land.plots; set++) {
                int worth = worthOf(land, set);
                if (worth > most && canBeBuilt(land, set, 0)) {
                    best = set;
                    most = worth;
                }
            }
            return best;
        }

        static int worthOf(Land land, int set) {
            int worth = 0;
            for (int p = 0; p < land.plots; p++) {
                if ((set >> p & 1) != 0) {
                    worth += land.plotWorth[p];
                }
            }
            return worth;
        }

        /** If any order does, the one by deadlines does: so all that is due by one must be done by it. */
        private boolean canBeBuilt(Land land, int set, int start) {
            for (int p = 0; p < land.plots; p++) {
                if ((set >> p & 1) != 0 && start + dueBy(land, set, deadline[p]) > deadline[p]) {
                    return false;
                }
            }
            return true;
        }

        private int dueBy(Land land, int set, int when) {
            int takes = 0;
            for (int p = 0; p < land.plots; p++) {
                if ((set >> p & 1) != 0 && deadline[p] <= when) {
                    takes += land.plotMinutes[p];
                }
            }
            return takes;
        }

        int inOrder(Land land, int set, int i) {
            int left = set;
            int gone = 0;
            for (int k = 0; k < MOST_PLOTS && left != 0; k++) {
                int p = nextOf(land, left, gone);
                if (p == NONE || k == i) {
                    return p;
                }
                gone += land.plotMinutes[p];
                left &= ~(1 << p);
            }
            return NONE;
        }

        private int nextOf(Land land, int left, int gone) {
            for (int p = 0; p < land.plots; p++) {
                int then = gone + land.plotMinutes[p];
                if ((left >> p & 1) != 0 && then <= deadline[p] && canBeBuilt(land, left & ~(1 << p), then)) {
                    return p;
                }
            }
            return NONE;
        }
    }

    /** The papers' colours and cliques. */
    private static final class Sheets {
        final int[] colour;

        Sheets() {
            colour = new int[MOST_PAPERS];
        }

        int paint(Land land) {
            for (int inks = 0; inks < land.papers; inks++) {
                if (fits(land, 0, inks)) {
                    return inks;
                }
            }
            fits(land, 0, land.papers);
            return land.papers;
        }

        private boolean fits(Land land, int p, int inks) {
            if (p >= land.papers || p >= MOST_PAPERS) {
                return true;
            }
            for (int c = 0; c < inks; c++) {
                colour[p] = c;
                if (isClear(land, p) && fits(land, p + 1, inks)) {
                    return true;
                }
            }
            return false;
        }

        private boolean isClear(Land land, int p) {
            for (int q = 0; q < p; q++) {
                if (colour[q] == colour[p] && (land.paperCells[q] & land.paperCells[p]) != 0) {
                    return false;
                }
            }
            return true;
        }

        static int greatestClique(Land land) {
            int best = 0;
            for (int set = 1; set < 1 << land.papers; set++) {
                if (Integer.bitCount(set) > Integer.bitCount(best) && allOverlap(land, set)) {
                    best = set;
                }
            }
            return best;
        }

        private static boolean allOverlap(Land land, int set) {
            for (int p = 0; p < land.papers; p++) {
                for (int q = 0; q < p; q++) {
                    boolean both = (set >> p & set >> q & 1) != 0;
                    if (both && (land.paperCells[p] & land.paperCells[q]) == 0) {
                        return false;
                    }
                }
            }
            return true;
        }
    }

    /** Weighs each house's standing, in 10 to the power of the minutes, over all gales that may blow. */
    private static final class Gales {
        final long[] stood;
        private final Coast[] steps;

        Gales() {
            stood = new long[MOST_HOUSES];
            steps = new Coast[MOST_GALES + 1];
            for (int i = 0; i <= MOST_GALES; i++) {
                steps[i] = new Coast();
            }
        }

        void weigh(Land land, Coast coast, Sea sea, int n) {
            Arrays.fill(stood, 0);
            steps[0].take(coast);
            blow(land, sea, 0, Math.min(n, MOST_GALES), 1);
        }

        private void blow(Land land, Sea sea, int step, int n, long weight) {
            Coast coast = steps[step];
            if (coast.standing == 0) {
                return;
            }
            if (step >= n) {
                tally(coast, weight);
                return;
            }
            int level = sea.tideAt(land, coast.minute + 1, coast.moon);
            int gale = level < MOST_LEVEL ? land.gale : 0;
            if (gale < 10) {
                steps[step + 1].take(coast);
                sea.tickAt(land, steps[step + 1], level);
                blow(land, sea, step + 1, n, weight * (10 - gale));
            }
            if (gale > 0) {
                steps[step + 1].take(coast);
                sea.tickAt(land, steps[step + 1], level + 1);
                blow(land, sea, step + 1, n, weight * gale);
            }
        }

        private void tally(Coast coast, long weight) {
            for (int h = 0; h < MOST_HOUSES; h++) {
                if ((coast.standing >> h & 1) != 0) {
                    stood[h] += weight;
                }
            }
        }

        /** That many in 10 to the power n, in lowest terms: 0 the number above, else below. */
        static int lowest(long many, int n, int what) {
            long below = 1;
            for (int i = 0; i < n && i < MOST_GALES; i++) {
                below *= 10;
            }
            long a = below;
            long b = many;
            for (int i = 0; i < 100 && b != 0; i++) {
                long rest = a % b;
                a = b;
                b = rest;
            }
            if (a == 0) {
                return 0;
            }
            return (int) ((what == 0 ? many : below) / a);
        }
    }
}
