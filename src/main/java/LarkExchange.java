import java.util.Arrays;

/** A market town whose prices go by larks on a heath at dawn. */
public final class LarkExchange {
    public static final int NONE = -1;

    private static final int MOST_LARKS = 6;
    private static final int MOST_GOODS = 8;
    private static final int MOST_TRADERS = 10;
    private static final int MOST_STOCK = 99;
    private static final int MOST_SCARED = 9;
    private static final int MOST_HEIGHT = 999;
    private static final int LAST_DAY = 9999;
    private static final int MOST_DAYS = 60;
    private static final int MINUTES = 30;
    private static final int LOST_HEIGHT = 500;
    private static final int SURE_FALL = 500;

    private static final int BOOK_LINES = 150;
    private static final int BOOK_COLUMNS = 4;
    private static final int FELL = 0;
    private static final int IS_LOST = 1;
    private static final int BOUGHT = 2;
    private static final int SOLD = 3;
    private static final int IS_RUINED = 4;

    private static final int TEXTS = 4;
    private static final int TEXT_LINES = 16;
    private static final int LINE_COLUMNS = 5;
    private static final int LAST_TEXT_DAY = 999;
    private static final int TAPE_BYTES = 400;
    private static final int FED_BYTES = 20;
    private static final int MOST_OPEN = 8;
    private static final int MOST_DIGITS = 4;

    private static final int CANT_STAND = 1;
    private static final int BAD_NUMBER = 2;
    private static final int TOO_MUCH = 3;

    /** Every keyword in a field of seven signs; a keyword's kind is the number of its field. */
    private static final String KEYWORDS =
        "rises  falls  asks   when   or     and    not    voice  height top    scared wind   minute base   lost   day    on     boy    calm   seek   trader buy    sell   of     good   by     ";
    private static final int KEYWORD_FIELD = 7;
    private static final int RISES = 0;
    private static final int FALLS = 1;
    private static final int ASKS = 2;
    private static final int WHEN = 3;
    private static final int OR = 4;
    private static final int AND = 5;
    private static final int NOT = 6;
    private static final int VOICE = 7;
    private static final int HEIGHT = 8;
    private static final int TOP = 9;
    private static final int SCARED = 10;
    private static final int WIND = 11;
    private static final int MINUTE = 12;
    private static final int BASE = 13;
    private static final int LOST = 14;
    private static final int DAY = 15;
    private static final int ON = 16;
    private static final int BOY = 17;
    private static final int CALM = 18;
    private static final int SEEK = 19;
    private static final int TRADER = 20;
    private static final int BUY = 21;
    private static final int SELL = 22;
    private static final int OF = 23;
    private static final int GOOD = 24;
    private static final int BY = 25;
    private static final int KEYWORD_COUNT = 26;

    /** A sign's kind is KEYWORD_COUNT and its place here. */
    private static final String SIGNS = ";+-*/()<=>";
    private static final int SEMICOLON = 26;
    private static final int PLUS = 27;
    private static final int MINUS = 28;
    private static final int TIMES = 29;
    private static final int OVER = 30;
    private static final int OPEN = 31;
    private static final int CLOSE = 32;
    private static final int LESS = 33;
    private static final int ALIKE = 34;
    private static final int MORE = 35;

    private static final int NUMBER = 36;
    private static final int END = 37;
    private static final int NO_TOKEN = 38;

    private static final int SEEN_WORDS = 9;
    private static final int STACK = 32;

    private final Town now;
    private final Town kept;
    private final World thought;
    private final Past past;
    private final Reader reader;
    private final Sums sums;
    private boolean isKept;

    public LarkExchange() {
        now = new Town();
        kept = new Town();
        thought = new World();
        past = new Past();
        reader = new Reader();
        sums = new Sums();
    }

    public int state(int v) {
        int before = now.world.draws;
        now.world.draws = v;
        past.forget();
        return before;
    }

    public int lark(int voice) {
        World world = now.world;
        if (isOutside(voice, 0, 9) || world.larks >= MOST_LARKS) {
            return NONE;
        }
        int lark = world.larks;
        world.voice[lark] = voice;
        world.larks = lark + 1;
        past.forget();
        return lark;
    }

    public int good(int base) {
        World world = now.world;
        if (isOutside(base, 1, 99) || world.goods >= MOST_GOODS) {
            return NONE;
        }
        int good = world.goods;
        world.base[good] = base;
        world.by[good] = NONE;
        world.price[good] = base;
        world.goods = good + 1;
        past.forget();
        return good;
    }

    public int trader(int purse) {
        World world = now.world;
        if (isOutside(purse, 0, 9999) || world.traders >= MOST_TRADERS) {
            return NONE;
        }
        int trader = world.traders;
        world.purse[trader] = purse;
        world.traders = trader + 1;
        past.forget();
        return trader;
    }

    public boolean set(int what, int who, int v) {
        boolean isSet = what <= 2 ? now.world.setsLark(what, who, v) : now.world.setsOther(what, who, v);
        if (isSet) {
            past.forget();
        }
        return isSet;
    }

    public boolean act(int what, int who, int v) {
        if (!canAct(what, who, v)) {
            return false;
        }
        World world = now.world;
        past.keep(world);
        if (what == 0) {
            now.buys(world, who, v, 1, true);
        } else if (what == 1) {
            now.sells(world, who, v, 1, true);
        } else if (what == 2) {
            world.scared[who]++;
        } else {
            world.finds(who);
        }
        return true;
    }

    private boolean canAct(int what, int who, int v) {
        World world = now.world;
        if (what == 0) {
            return world.canTrade(who, v) && world.affords(who, v) >= 1;
        }
        if (what == 1) {
            return world.canTrade(who, v) && world.stockOf(who, v) >= 1;
        }
        if (what == 2) {
            return world.hasLark(who) && world.scared[who] < MOST_SCARED;
        }
        return what == 3 && world.hasLark(who) && world.lost[who] == 1;
    }

    public int days(int n) {
        World world = now.world;
        if (isOutside(n, 1, MOST_DAYS) || world.day + n > LAST_DAY) {
            return NONE;
        }
        int fallen = 0;
        for (int i = 0; i < n; i++) {
            past.keep(world);
            fallen += now.dayGoes(world, true);
        }
        return fallen;
    }

    public int feed(int a, int b, int c, int d, int e) {
        if (reader.length + FED_BYTES > TAPE_BYTES) {
            return NONE;
        }
        reader.puts(a);
        reader.puts(b);
        reader.puts(c);
        reader.puts(d);
        reader.puts(e);
        return reader.length;
    }

    public boolean end(int n) {
        if (isOutside(n, 0, reader.length)) {
            return false;
        }
        reader.length = n;
        return true;
    }

    public int text(int k) {
        if (!reader.reads(k, now.world)) {
            return NONE;
        }
        if (k == 0) {
            now.law.copyFrom(reader.law);
            return now.law.lines;
        }
        Lines lines = k == 1 ? now.dawns : k == 2 ? now.trades : now.bound;
        lines.copyFrom(reader.lines);
        if (k == 3) {
            now.world.binds(lines);
        }
        past.forget();
        return lines.count;
    }

    public int fault(int what) {
        if (what == 0) {
            return reader.fault;
        }
        return what == 1 ? reader.place : NONE;
    }

    public int of(int lark, int what) {
        World world = now.world;
        if (!world.hasLark(lark)) {
            return NONE;
        }
        switch (what) {
            case 0: return world.voice[lark];
            case 1: return world.height[lark];
            case 2: return world.top[lark];
            case 3: return world.lost[lark];
            case 4: return world.scared[lark];
            case 5: return now.law.tells(RISES, world, lark, NONE, 0);
            case 6: return now.law.tells(FALLS, world, lark, NONE, 0);
            case 7: return world.goodsBy(lark);
            default: return NONE;
        }
    }

    public int goodOf(int good, int what) {
        World world = now.world;
        if (!world.hasGood(good)) {
            return NONE - 1;
        }
        switch (what) {
            case 0: return world.base[good];
            case 1: return world.by[good];
            case 2: return world.price[good];
            case 3: return now.law.tells(ASKS, world, world.by[good], good, 0);
            case 4: return world.stockOfAll(good);
            default: return NONE - 1;
        }
    }

    public int who(int trader, int what) {
        World world = now.world;
        if (!world.hasTrader(trader)) {
            return NONE - 9;
        }
        if (what == 0) {
            return world.purse[trader];
        }
        if (what == 1) {
            return world.ruined[trader];
        }
        if (what == 2) {
            return world.worth(trader);
        }
        return what >= 10 && world.hasGood(what - 10) ? world.stockOf(trader, what - 10) : NONE - 9;
    }

    public int book(int i, int what) {
        if (isOutside(i, 0, now.world.written - 1) || isOutside(what, 0, BOOK_COLUMNS - 1)) {
            return NONE - 9;
        }
        return now.pages[i * BOOK_COLUMNS + what];
    }

    public int goes(int n, int what) {
        if (isOutside(n, 1, MOST_DAYS) || isOutside(what, 0, 3)) {
            return NONE - 99;
        }
        thought.copyFrom(now.world);
        for (int i = 0; i < n; i++) {
            now.dayGoes(thought, false);
        }
        switch (what) {
            case 0: return sumOf(thought.price, thought.goods);
            case 1: return sumOf(thought.purse, thought.traders);
            case 2: return sumOf(thought.lost, thought.larks);
            default: return sumOf(thought.ruined, thought.traders);
        }
    }

    public int ruin(int trader) {
        if (!now.world.hasTrader(trader)) {
            return NONE;
        }
        thought.copyFrom(now.world);
        for (int gone = 0; gone < MOST_DAYS; gone++) {
            if (thought.ruined[trader] == 1) {
                return gone;
            }
            now.dayGoes(thought, false);
        }
        return thought.ruined[trader] == 1 ? MOST_DAYS : NONE;
    }

    public int price(int v) {
        return now.row.takes(v);
    }

    public int trading(int k, int what) {
        if (isOutside(k, 1, 5) || isOutside(what, 0, 1)) {
            return NONE;
        }
        return what == 0 ? now.row.mostGain(k) : now.row.fewestTimes(k);
    }

    public boolean change(int a, int b, int nd) {
        return now.bench.changes(a, b, nd);
    }

    public int round(int a, int what) {
        if (isOutside(a, 0, 3) || isOutside(what, 0, 1)) {
            return NONE;
        }
        return now.bench.bestRound(a, what);
    }

    public int parts(int a, int b, int what) {
        if (isOutside(a, 1, 12) || isOutside(b, 1, 12) || a >= b || isOutside(what, 0, 4)) {
            return NONE;
        }
        return Sums.partOf(a, b, what);
    }

    public int loaves(int a, int n, int what) {
        if (isOutside(a, 1, 60) || isOutside(n, 1, 60) || isOutside(what, 0, 2)) {
            return NONE;
        }
        int common = common(a, n);
        if (what == 0) {
            return a + n - common;
        }
        return what == 1 ? a / common : n / common;
    }

    public int sticks(int v, int what) {
        if (what == 0 && !isOutside(v, 0, 99999)) {
            return Sums.sticksOf(v);
        }
        return what == 1 && !isOutside(v, 2, 42) ? Sums.leastOfSticks(v) : NONE;
    }

    public int twos(int n, int what) {
        if (isOutside(n, -9999, 9999) || isOutside(what, 0, 1)) {
            return NONE;
        }
        int bits = Sums.otherWayTwos(n);
        return what == 1 ? bits : Sums.lengthOf(bits);
    }

    public int words(int n, int what) {
        if (isOutside(n, 0, 999) || isOutside(what, 0, 1)) {
            return NONE;
        }
        return what == 0 ? Sums.lettersOf(n) : Sums.longestUpTo(n);
    }

    public int window(int k, int what) {
        if (isOutside(k, 1, Row.MOST) || isOutside(what, 0, 1)) {
            return NONE;
        }
        int where = now.row.dearest(k);
        if (what == 1) {
            return where;
        }
        return where == NONE ? 0 : now.row.sumFrom(where, k);
    }

    public int row(int what) {
        switch (what) {
            case 0: return now.row.midst();
            case 1: return now.row.couples();
            case 2: return now.row.records();
            case 3: return now.row.hats();
            case 4: return now.row.longestRun();
            default: return NONE;
        }
    }

    public int fifths(int n, int what) {
        if (isOutside(n, -12, 12) || isOutside(what, 0, 1)) {
            return NONE;
        }
        return Sums.songOfFifths(n, what);
    }

    public int way(int a, int b) {
        return now.heath.takes(a, b);
    }

    public int caught(int a, int b) {
        if (isOutside(a, 0, Heath.PLACES - 1) || isOutside(b, 0, Heath.PLACES - 1)) {
            return NONE;
        }
        return now.heath.goings(a, b);
    }

    public int sack(int weight, int worth) {
        return now.bench.takes(weight, worth);
    }

    public int packed(int w, int what) {
        if (isOutside(w, 0, 99) || isOutside(what, 0, 2)) {
            return NONE;
        }
        return now.bench.fits(w, what);
    }

    public int shares(int n, int what) {
        if (isOutside(n, 1, 60)) {
            return NONE;
        }
        if (what == 0) {
            return sums.unlikeParts(n);
        }
        if (what == 1) {
            return sums.partsUpTo(n, n, true);
        }
        return isOutside(what, 101, 160) ? NONE : sums.partsUpTo(n, what - 100, false);
    }

    public int game(int h, int s, int k) {
        if (isOutside(h, 0, 99) || isOutside(s, 1, 100) || h >= s || isOutside(k, 2, 9)) {
            return NONE;
        }
        return sums.firstSending(h, s, k);
    }

    public boolean undo() {
        return past.goesBack(now.world);
    }

    public boolean image(boolean taken) {
        if (taken) {
            kept.copyFrom(now);
            isKept = true;
            return true;
        }
        if (!isKept) {
            return false;
        }
        now.copyFrom(kept);
        past.forget();
        return true;
    }

    public int look(int what) {
        World world = now.world;
        switch (what) {
            case 0: return world.larks;
            case 1: return world.goods;
            case 2: return world.traders;
            case 3: return world.wind;
            case 4: return setOf(world.lost, world.larks);
            case 5: return setOf(world.ruined, world.traders);
            case 6: return world.day;
            case 7: return world.written;
            case 8: return world.draws;
            case 9: return now.law.lines;
            case 10: return now.dawns.count;
            case 11: return now.trades.count;
            case 12: return now.bound.count;
            case 13: return past.count;
            default: return NONE - 99999;
        }
    }

    private static boolean isOutside(int v, int least, int most) {
        return v < least || v > most;
    }

    private static int sumOf(int[] cells, int count) {
        int sum = 0;
        for (int i = 0; i < count && i < cells.length; i++) {
            sum += cells[i];
        }
        return sum;
    }

    private static int setOf(int[] flags, int count) {
        int set = 0;
        for (int i = 0; i < count && i < flags.length; i++) {
            if (flags[i] == 1) {
                set |= 1 << i;
            }
        }
        return set;
    }

    /** The greatest common divisor; 1 at least, so that it can always divide. */
    private static int common(int a, int b) {
        int high = Math.abs(a);
        int low = Math.abs(b);
        for (int i = 0; i < 64 && low != 0; i++) {
            int rest = high % low;
            high = low;
            low = rest;
        }
        return high < 1 ? 1 : high;
    }

    private static void copy(int[] from, int[] to) {
        System.arraycopy(from, 0, to, 0, Math.min(from.length, to.length));
    }

    /** All that a DAY changes; also how far THE BOOK is written, so that UNDO takes its lines back. */
    private static final class World {
        int larks;
        int goods;
        int traders;
        int wind;
        int day;
        int draws;
        int written;
        final int[] voice = new int[MOST_LARKS];
        final int[] height = new int[MOST_LARKS];
        final int[] top = new int[MOST_LARKS];
        final int[] lost = new int[MOST_LARKS];
        final int[] scared = new int[MOST_LARKS];
        final int[] base = new int[MOST_GOODS];
        final int[] by = new int[MOST_GOODS];
        final int[] price = new int[MOST_GOODS];
        final int[] purse = new int[MOST_TRADERS];
        final int[] ruined = new int[MOST_TRADERS];
        final int[] stock = new int[MOST_TRADERS * MOST_GOODS];

        void copyFrom(World other) {
            larks = other.larks;
            goods = other.goods;
            traders = other.traders;
            wind = other.wind;
            day = other.day;
            draws = other.draws;
            written = other.written;
            copy(other.voice, voice);
            copy(other.height, height);
            copy(other.top, top);
            copy(other.lost, lost);
            copy(other.scared, scared);
            copy(other.base, base);
            copy(other.by, by);
            copy(other.price, price);
            copy(other.purse, purse);
            copy(other.ruined, ruined);
            copy(other.stock, stock);
        }

        boolean hasLark(int lark) {
            return lark >= 0 && lark < larks;
        }

        boolean hasGood(int good) {
            return good >= 0 && good < goods;
        }

        boolean hasTrader(int trader) {
            return trader >= 0 && trader < traders;
        }

        boolean setsLark(int what, int who, int v) {
            if (!hasLark(who)) {
                return false;
            }
            if (what == 0 && v >= 0 && v <= 9) {
                voice[who] = v;
                return true;
            }
            if (what == 1 && v >= 0 && v <= MOST_HEIGHT) {
                height[who] = v;
                return true;
            }
            if (what == 2 && v >= 0 && v <= MOST_SCARED) {
                scared[who] = v;
                return true;
            }
            return false;
        }

        boolean setsOther(int what, int who, int v) {
            if (what == 3 && hasGood(who) && v >= 1 && v <= 99) {
                base[who] = v;
                return true;
            }
            if (what == 4 && hasGood(who) && v >= 1 && v <= 999) {
                price[who] = v;
                return true;
            }
            if (what == 5 && hasTrader(who) && v >= 0 && v <= 9999) {
                purse[who] = v;
                return true;
            }
            if (what == 6 && v >= 0 && v <= 9) {
                wind = v;
                return true;
            }
            return false;
        }

        int draw(int m) {
            draws = draws * 1664525 + 1013904223;
            return m > 0 ? (draws >>> 8) % m : 0;
        }

        void rises(int lark, int more) {
            height[lark] = Math.min(MOST_HEIGHT, height[lark] + more);
            top[lark] = Math.max(top[lark], height[lark]);
        }

        void finds(int lark) {
            if (lost[lark] == 1) {
                lost[lark] = 0;
                height[lark] = 0;
            }
        }

        void binds(Lines bound) {
            Arrays.fill(by, NONE);
            for (int line = 0; line < bound.count; line++) {
                int good = bound.cell(line, 0);
                if (hasGood(good)) {
                    by[good] = bound.cell(line, 1);
                }
            }
        }

        int goodsBy(int lark) {
            int set = 0;
            for (int good = 0; good < goods; good++) {
                if (by[good] == lark) {
                    set |= 1 << good;
                }
            }
            return set;
        }

        int stockOf(int trader, int good) {
            return stock[trader * MOST_GOODS + good];
        }

        int stockOfAll(int good) {
            int sum = 0;
            for (int trader = 0; trader < traders; trader++) {
                sum += stockOf(trader, good);
            }
            return sum;
        }

        int worth(int trader) {
            int sum = purse[trader];
            for (int good = 0; good < goods; good++) {
                sum += stockOf(trader, good) * price[good];
            }
            return sum;
        }

        boolean canTrade(int trader, int good) {
            return hasTrader(trader) && hasGood(good) && ruined[trader] == 0;
        }

        /** How many of a GOOD the PURSE pays and there is room for. */
        int affords(int trader, int good) {
            int paid = price[good] > 0 ? purse[trader] / price[good] : 0;
            return Math.min(paid, MOST_STOCK - stockOf(trader, good));
        }

        void moves(int trader, int good, int many) {
            stock[trader * MOST_GOODS + good] += many;
            purse[trader] -= many * price[good];
        }

        boolean isBroke(int trader, int leastPrice) {
            for (int good = 0; good < goods; good++) {
                if (stockOf(trader, good) != 0) {
                    return false;
                }
            }
            return ruined[trader] == 0 && purse[trader] < leastPrice;
        }

        int leastPrice() {
            int least = 0;
            for (int good = 0; good < goods; good++) {
                if (good == 0 || price[good] < least) {
                    least = price[good];
                }
            }
            return least;
        }
    }

    /** What can be undone: how the world was ahead of the latest six deeds, in a ring. */
    private static final class Past {
        static final int MOST = 6;
        final World[] worlds = new World[MOST];
        int next;
        int count;

        Past() {
            for (int i = 0; i < MOST; i++) {
                worlds[i] = new World();
            }
        }

        void keep(World world) {
            worlds[next].copyFrom(world);
            next = (next + 1) % MOST;
            count = Math.min(MOST, count + 1);
        }

        boolean goesBack(World world) {
            if (count == 0) {
                return false;
            }
            next = (next + MOST - 1) % MOST;
            count--;
            world.copyFrom(worlds[next]);
            return true;
        }

        void forget() {
            count = 0;
        }
    }

    /** All that THE IMAGE holds, and how a DAY goes in it. */
    private static final class Town {
        final World world = new World();
        final int[] pages = new int[BOOK_LINES * BOOK_COLUMNS];
        final Law law = new Law();
        final Lines dawns = new Lines();
        final Lines trades = new Lines();
        final Lines bound = new Lines();
        final Row row = new Row();
        final Heath heath = new Heath();
        final Bench bench = new Bench();

        void copyFrom(Town other) {
            world.copyFrom(other.world);
            copy(other.pages, pages);
            law.copyFrom(other.law);
            dawns.copyFrom(other.dawns);
            trades.copyFrom(other.trades);
            bound.copyFrom(other.bound);
            row.copyFrom(other.row);
            heath.copyFrom(other.heath);
            bench.copyFrom(other.bench);
        }

        /** One DAY of that world; a day that is not real draws nothing and writes nothing. */
        int dayGoes(World day, boolean real) {
            boysCome(day);
            int fallen = 0;
            for (int lark = 0; lark < day.larks; lark++) {
                if (day.lost[lark] == 0 && sings(day, lark, real)) {
                    fallen++;
                }
            }
            chalks(day);
            for (int line = 0; line < trades.count; line++) {
                if (trades.cell(line, 0) == day.day) {
                    deals(day, line, real);
                }
            }
            ruins(day, real);
            day.day++;
            return fallen;
        }

        private void boysCome(World day) {
            for (int line = 0; line < dawns.count; line++) {
                int deed = dawns.cell(line, 1);
                int lark = dawns.cell(line, 2);
                int n = dawns.cell(line, 3);
                if (dawns.cell(line, 0) != day.day) {
                    continue;
                }
                if (deed == WIND) {
                    day.wind = n;
                } else if (!day.hasLark(lark)) {
                    continue;
                } else if (deed == BOY) {
                    day.scared[lark] = Math.min(MOST_SCARED, day.scared[lark] + n);
                } else if (deed == CALM) {
                    day.scared[lark] = 0;
                } else {
                    day.finds(lark);
                }
            }
        }

        private boolean sings(World day, int lark, boolean real) {
            boolean fell = false;
            day.height[lark] = 0;
            for (int minute = 0; minute < MINUTES && !fell; minute++) {
                day.rises(lark, law.tells(RISES, day, lark, NONE, minute));
                int falls = law.tells(FALLS, day, lark, NONE, minute);
                fell = real ? falls > 0 && day.draw(1000) < falls : falls >= SURE_FALL;
            }
            if (fell) {
                writes(day, FELL, lark, day.height[lark], real);
            } else if (day.height[lark] >= LOST_HEIGHT) {
                day.lost[lark] = 1;
                writes(day, IS_LOST, lark, day.height[lark], real);
            }
            day.scared[lark] = Math.max(0, day.scared[lark] - 1);
            return fell;
        }

        private void chalks(World day) {
            for (int good = 0; good < day.goods; good++) {
                int lark = day.by[good];
                if (!day.hasLark(lark) || day.lost[lark] == 0) {
                    day.price[good] = law.tells(ASKS, day, lark, good, 0);
                }
            }
        }

        private void deals(World day, int line, boolean real) {
            int trader = trades.cell(line, 1);
            int n = trades.cell(line, 3);
            int good = trades.cell(line, 4);
            if (!day.canTrade(trader, good)) {
                return;
            }
            if (trades.cell(line, 2) == BUY) {
                buys(day, trader, good, n, real);
            } else {
                sells(day, trader, good, n, real);
            }
        }

        void buys(World day, int trader, int good, int n, boolean real) {
            int many = Math.min(n, day.affords(trader, good));
            if (many > 0) {
                day.moves(trader, good, many);
                writes(day, BOUGHT, trader, many, real);
            }
        }

        void sells(World day, int trader, int good, int n, boolean real) {
            int many = Math.min(n, day.stockOf(trader, good));
            if (many > 0) {
                day.moves(trader, good, -many);
                writes(day, SOLD, trader, many, real);
            }
        }

        private void ruins(World day, boolean real) {
            int least = day.leastPrice();
            for (int trader = 0; trader < day.traders; trader++) {
                if (day.isBroke(trader, least)) {
                    day.ruined[trader] = 1;
                    writes(day, IS_RUINED, trader, day.purse[trader], real);
                }
            }
        }

        private void writes(World day, int what, int who, int howMuch, boolean real) {
            if (!real || day.written >= BOOK_LINES) {
                return;
            }
            int from = day.written * BOOK_COLUMNS;
            pages[from] = day.day;
            pages[from + 1] = what;
            pages[from + 2] = who;
            pages[from + 3] = howMuch;
            day.written++;
        }
    }

    /** The lines of DAWNS, TRADES or BOUND, five numbers each. */
    private static final class Lines {
        final int[] cells = new int[TEXT_LINES * LINE_COLUMNS];
        int count;

        void copyFrom(Lines other) {
            copy(other.cells, cells);
            count = other.count;
        }

        void adds(int a, int b, int c, int d, int e) {
            if (count >= TEXT_LINES) {
                return;
            }
            int from = count * LINE_COLUMNS;
            cells[from] = a;
            cells[from + 1] = b;
            cells[from + 2] = c;
            cells[from + 3] = d;
            cells[from + 4] = e;
            count++;
        }

        int cell(int line, int column) {
            return cells[line * LINE_COLUMNS + column];
        }
    }

    /**
     * THE LAW, each line as code for a stack: a number that is not below 0 is put on it, another
     * one is the complement of a token's kind.
     */
    private static final class Law {
        int lines;
        int used;
        final int[] words = new int[TEXT_LINES];
        final int[] begins = new int[TEXT_LINES];
        final int[] whens = new int[TEXT_LINES];
        final int[] ends = new int[TEXT_LINES];
        final int[] code = new int[TAPE_BYTES];
        final int[] seen = new int[SEEN_WORDS];
        final int[] stack = new int[STACK];

        void copyFrom(Law other) {
            lines = other.lines;
            used = other.used;
            copy(other.words, words);
            copy(other.begins, begins);
            copy(other.whens, whens);
            copy(other.ends, ends);
            System.arraycopy(other.code, 0, code, 0, other.used);
        }

        void clears() {
            lines = 0;
            used = 0;
        }

        void opens(int word) {
            if (lines < TEXT_LINES) {
                words[lines] = word;
                begins[lines] = used;
            }
        }

        void turnsToWhen() {
            if (lines < TEXT_LINES) {
                whens[lines] = used;
            }
        }

        void closes() {
            if (lines < TEXT_LINES) {
                ends[lines] = used;
                lines++;
            }
        }

        void adds(int step) {
            if (used < TAPE_BYTES) {
                code[used] = step;
                used++;
            }
        }

        /** What it tells for rises, falls or asks; lark NONE: a GOOD by none. */
        int tells(int word, World world, int lark, int good, int minute) {
            boolean isSeen = false;
            for (int line = 0; line < lines; line++) {
                if (words[line] != word) {
                    continue;
                }
                if (!isSeen) {
                    sees(world, lark, good, minute);
                    isSeen = true;
                }
                if (whens[line] == ends[line] || comesTo(whens[line], ends[line]) != 0) {
                    return held(word, comesTo(begins[line], whens[line]));
                }
            }
            return held(word, usual(word, world, lark, good));
        }

        private void sees(World world, int lark, int good, int minute) {
            boolean sung = world.hasLark(lark);
            seen[0] = sung ? world.voice[lark] : 0;
            seen[HEIGHT - VOICE] = sung ? world.height[lark] : 0;
            seen[TOP - VOICE] = sung ? world.top[lark] : 0;
            seen[SCARED - VOICE] = sung ? world.scared[lark] : 0;
            seen[WIND - VOICE] = world.wind;
            seen[MINUTE - VOICE] = minute;
            seen[BASE - VOICE] = world.hasGood(good) ? world.base[good] : 0;
            seen[LOST - VOICE] = sung ? world.lost[lark] : 0;
            seen[DAY - VOICE] = world.day;
        }

        private static int usual(int word, World world, int lark, int good) {
            boolean sung = world.hasLark(lark);
            if (word == ASKS) {
                int base = world.hasGood(good) ? world.base[good] : 0;
                return sung ? base + world.height[lark] / 10 : base;
            }
            if (!sung) {
                return 0;
            }
            return word == RISES ? 5 + world.voice[lark] : 100 + 100 * world.scared[lark] - 10 * world.voice[lark];
        }

        private static int held(int word, int v) {
            int least = word == ASKS ? 1 : 0;
            int most = word == RISES ? 99 : word == FALLS ? 1000 : 999;
            return Math.max(least, Math.min(most, v));
        }

        private int comesTo(int from, int behind) {
            int size = 0;
            for (int i = from; i < behind && i < TAPE_BYTES; i++) {
                int step = code[i];
                int kind = ~step;
                boolean isPut = step >= 0 || kind >= VOICE && kind <= DAY;
                if (isPut && size < STACK) {
                    stack[size] = step >= 0 ? step : seen[kind - VOICE];
                    size++;
                } else if (kind == NOT && size >= 1) {
                    stack[size - 1] = 1 - stack[size - 1];
                } else if (!isPut && size >= 2) {
                    size--;
                    stack[size - 1] = joined(kind, stack[size - 1], stack[size]);
                }
            }
            return stack[0];
        }

        private static int joined(int kind, int a, int b) {
            switch (kind) {
                case PLUS: return a + b;
                case MINUS: return a - b;
                case TIMES: return a * b;
                case OVER: return b == 0 ? 0 : a / b;
                case LESS: return a < b ? 1 : 0;
                case ALIKE: return a == b ? 1 : 0;
                case MORE: return a > b ? 1 : 0;
                case AND: return a & b;
                default: return a | b;
            }
        }
    }

    /** The TAPE, its tokens, and the draft of the text that is read from them. */
    private static final class Reader {
        int length;
        int fault;
        int place;
        final Law law = new Law();
        final Lines lines = new Lines();
        private final int[] tape = new int[TAPE_BYTES];
        private final int[] kinds = new int[TAPE_BYTES + 1];
        private final int[] values = new int[TAPE_BYTES + 1];
        private final int[] places = new int[TAPE_BYTES + 1];
        private int tokens;
        private int at;

        Reader() {
            place = NONE;
        }

        void puts(int four) {
            for (int shift = 24; shift >= 0 && length < TAPE_BYTES; shift -= 8) {
                tape[length] = (four >>> shift) & 255;
                length++;
            }
        }

        /** Takes the whole TAPE as TEXT k into the draft; false: no such text, or a FAULT. */
        boolean reads(int k, World world) {
            splits();
            length = 0;
            at = 0;
            fault = 0;
            place = NONE;
            law.clears();
            lines.count = 0;
            if (k < 0 || k >= TEXTS) {
                return false;
            }
            for (int line = 0; line <= TEXT_LINES && kind() != END; line++) {
                if (!canBegin(k)) {
                    return fails(CANT_STAND);
                }
                if (line == TEXT_LINES) {
                    return fails(TOO_MUCH);
                }
                boolean isRead = k == 0 ? readsLaw() : k == 1 ? readsDawn(world)
                    : k == 2 ? readsTrade(world) : readsBound(world);
                if (!isRead || !takes(SEMICOLON)) {
                    return false;
                }
            }
            return true;
        }

        private void splits() {
            tokens = 0;
            for (int i = 0; i < length; i++) {
                if (beginsToken(i)) {
                    int behind = behindRun(i);
                    keeps(kindOf(i, behind), i, isDigit(i) ? valueOf(i, behind) : 0);
                }
            }
            keeps(END, length, 0);
        }

        /** No blank, and no letter behind a letter, no digit behind a digit: those stand together. */
        private boolean beginsToken(int i) {
            if (tape[i] == ' ' || tape[i] == '\n') {
                return false;
            }
            if (i == 0) {
                return true;
            }
            return isDigit(i) ? !isDigit(i - 1) : !isLetter(i) || !isLetter(i - 1);
        }

        private void keeps(int kind, int from, int value) {
            if (tokens <= TAPE_BYTES) {
                kinds[tokens] = kind;
                places[tokens] = from;
                values[tokens] = value;
                tokens++;
            }
        }

        private boolean isDigit(int i) {
            return i < length && tape[i] >= '0' && tape[i] <= '9';
        }

        private boolean isLetter(int i) {
            return i < length && (tape[i] >= 'a' && tape[i] <= 'z' || tape[i] >= 'A' && tape[i] <= 'Z');
        }

        private int behindRun(int from) {
            boolean digits = isDigit(from);
            int behind = from + 1;
            if (!digits && !isLetter(from)) {
                return behind;
            }
            while (behind < length && (digits ? isDigit(behind) : isLetter(behind))) {
                behind++;
            }
            return behind;
        }

        private int kindOf(int from, int behind) {
            if (isDigit(from)) {
                return behind - from <= MOST_DIGITS ? NUMBER : NO_TOKEN;
            }
            if (!isLetter(from)) {
                int sign = SIGNS.indexOf((char) tape[from]);
                return sign < 0 ? NO_TOKEN : KEYWORD_COUNT + sign;
            }
            for (int word = 0; word < KEYWORD_COUNT; word++) {
                if (isKeyword(word, from, behind)) {
                    return word;
                }
            }
            return NO_TOKEN;
        }

        private boolean isKeyword(int word, int from, int behind) {
            int size = behind - from;
            int field = word * KEYWORD_FIELD;
            if (size >= KEYWORD_FIELD || KEYWORDS.charAt(field + size) != ' ') {
                return false;
            }
            for (int i = 0; i < size; i++) {
                if (KEYWORDS.charAt(field + i) != tape[from + i]) {
                    return false;
                }
            }
            return true;
        }

        /** Of more digits than a NUMBER has it may wrap: then it is no token, and no one asks. */
        private int valueOf(int from, int behind) {
            int value = 0;
            for (int i = from; i < behind; i++) {
                value = value * 10 + tape[i] - '0';
            }
            return value;
        }

        private int kind() {
            return at < tokens ? kinds[at] : END;
        }

        private boolean fails(int which) {
            fault = which;
            place = at < tokens ? places[at] : NONE;
            return false;
        }

        private boolean takes(int kind) {
            if (kind() != kind) {
                return fails(CANT_STAND);
            }
            at++;
            return true;
        }

        /** A NUMBER within bounds; NONE: a FAULT. */
        private int takesNumber(int least, int most) {
            if (kind() != NUMBER) {
                fails(CANT_STAND);
                return NONE;
            }
            int value = values[at];
            if (value < least || value > most) {
                fails(BAD_NUMBER);
                return NONE;
            }
            at++;
            return value;
        }

        private boolean canBegin(int k) {
            int kind = kind();
            if (k == 0) {
                return kind == RISES || kind == FALLS || kind == ASKS;
            }
            return k == 3 ? kind == GOOD : kind == ON;
        }

        private boolean readsDawn(World world) {
            at++;
            int day = takesNumber(0, LAST_TEXT_DAY);
            if (day < 0) {
                return false;
            }
            int deed = kind();
            if (deed != BOY && deed != CALM && deed != WIND && deed != SEEK) {
                return fails(CANT_STAND);
            }
            at++;
            int lark = deed == WIND ? 0 : takesNumber(0, world.larks - 1);
            if (lark < 0) {
                return false;
            }
            int n = deed == BOY ? takesNumber(1, 9) : deed == WIND ? takesNumber(0, 9) : 0;
            if (n < 0) {
                return false;
            }
            lines.adds(day, deed, lark, n, 0);
            return true;
        }

        private boolean readsTrade(World world) {
            at++;
            int day = takesNumber(0, LAST_TEXT_DAY);
            if (day < 0 || !takes(TRADER)) {
                return false;
            }
            int trader = takesNumber(0, world.traders - 1);
            if (trader < 0) {
                return false;
            }
            int deed = kind();
            if (deed != BUY && deed != SELL) {
                return fails(CANT_STAND);
            }
            at++;
            int n = takesNumber(1, 99);
            if (n < 0 || !takes(OF)) {
                return false;
            }
            int good = takesNumber(0, world.goods - 1);
            lines.adds(day, trader, deed, n, good);
            return good >= 0;
        }

        private boolean readsBound(World world) {
            at++;
            int good = takesNumber(0, world.goods - 1);
            if (good < 0 || !takes(BY)) {
                return false;
            }
            int lark = takesNumber(0, world.larks - 1);
            lines.adds(good, lark, 0, 0, 0);
            return lark >= 0;
        }

        private boolean readsLaw() {
            law.opens(kind());
            at++;
            if (!readsSum()) {
                return false;
            }
            law.turnsToWhen();
            if (kind() == WHEN) {
                at++;
                if (!readsChoice(0)) {
                    return false;
                }
            }
            law.closes();
            return true;
        }

        /** B = A {or A} and A = C {and C} in one: an or waits till all that and joins behind it is read. */
        private boolean readsChoice(int open) {
            boolean orWaits = false;
            if (!readsSingle(open)) {
                return false;
            }
            for (int i = 0; i < TAPE_BYTES; i++) {
                int kind = kind();
                if (kind != AND && orWaits) {
                    law.adds(~OR);
                    orWaits = false;
                }
                if (kind != AND && kind != OR) {
                    return true;
                }
                at++;
                if (!readsSingle(open)) {
                    return false;
                }
                if (kind == AND) {
                    law.adds(~AND);
                } else {
                    orWaits = true;
                }
            }
            return false;
        }

        /** C; open: how many ( and not are open around it. */
        private boolean readsSingle(int open) {
            int kind = kind();
            if (kind == NOT || kind == OPEN) {
                if (open >= MOST_OPEN) {
                    return fails(TOO_MUCH);
                }
                at++;
                if (kind == OPEN) {
                    return readsChoice(open + 1) && takes(CLOSE);
                }
                if (!readsSingle(open + 1)) {
                    return false;
                }
                law.adds(~NOT);
                return true;
            }
            if (!readsSum()) {
                return false;
            }
            int sign = kind();
            if (sign != LESS && sign != ALIKE && sign != MORE) {
                return fails(CANT_STAND);
            }
            at++;
            if (!readsSum()) {
                return false;
            }
            law.adds(~sign);
            return true;
        }

        /** E and T in one: a + or - waits till all that * and / join behind it is read. */
        private boolean readsSum() {
            int waits = NO_TOKEN;
            if (!readsUnit(false)) {
                return false;
            }
            for (int i = 0; i < TAPE_BYTES; i++) {
                int kind = kind();
                boolean isTerm = kind == TIMES || kind == OVER;
                if (!isTerm && waits != NO_TOKEN) {
                    law.adds(~waits);
                    waits = NO_TOKEN;
                }
                if (!isTerm && kind != PLUS && kind != MINUS) {
                    return true;
                }
                at++;
                if (!readsUnit(kind == OVER)) {
                    return false;
                }
                if (isTerm) {
                    law.adds(~kind);
                } else {
                    waits = kind;
                }
            }
            return false;
        }

        /** U, or what it is parted by: a NUMBER that is not 0. */
        private boolean readsUnit(boolean parts) {
            int kind = kind();
            boolean isNumber = kind == NUMBER;
            if (!isNumber && (parts || kind < VOICE || kind > DAY)) {
                return fails(CANT_STAND);
            }
            if (parts && values[at] == 0) {
                return fails(BAD_NUMBER);
            }
            law.adds(isNumber ? values[at] : ~kind);
            at++;
            return true;
        }
    }

    /** The told row of prices, and what is asked of it. */
    private static final class Row {
        static final int MOST = 14;
        static final int MOST_TIMES = 5;
        final int[] prices = new int[MOST];
        int count;
        private final int[] sorted = new int[MOST];
        private final int[] gains = new int[MOST_TIMES + 1];
        private final int[] holds = new int[MOST_TIMES + 1];

        void copyFrom(Row other) {
            copy(other.prices, prices);
            count = other.count;
        }

        int takes(int v) {
            if (v == NONE) {
                count = 0;
                return 0;
            }
            if (v < 1 || v > 99 || count >= MOST) {
                return NONE;
            }
            prices[count] = v;
            count++;
            return count;
        }

        /** Fills gains: the most by so many times at most. */
        private void weighs() {
            Arrays.fill(gains, 0);
            Arrays.fill(holds, -1000);
            for (int i = 0; i < count; i++) {
                for (int times = MOST_TIMES; times >= 1; times--) {
                    gains[times] = Math.max(gains[times], holds[times] + prices[i]);
                    holds[times] = Math.max(holds[times], gains[times - 1] - prices[i]);
                }
            }
        }

        int mostGain(int k) {
            weighs();
            return gains[Math.min(k, MOST_TIMES)];
        }

        int fewestTimes(int k) {
            int most = mostGain(k);
            for (int times = 0; times < k && times < MOST_TIMES; times++) {
                if (gains[times] == most) {
                    return times;
                }
            }
            return k;
        }

        int sumFrom(int from, int k) {
            int sum = 0;
            for (int i = from; i < from + k && i < count; i++) {
                sum += prices[i];
            }
            return sum;
        }

        int dearest(int k) {
            int where = NONE;
            int most = 0;
            for (int from = 0; from + k <= count; from++) {
                int sum = sumFrom(from, k);
                if (sum > most) {
                    most = sum;
                    where = from;
                }
            }
            return where;
        }

        int midst() {
            if (count == 0) {
                return NONE;
            }
            copy(prices, sorted);
            for (int i = 1; i < count; i++) {
                int v = sorted[i];
                int hole = i;
                for (; hole > 0 && sorted[hole - 1] > v; hole--) {
                    sorted[hole] = sorted[hole - 1];
                }
                sorted[hole] = v;
            }
            return sorted[(count - 1) / 2];
        }

        int couples() {
            int found = 0;
            for (int i = 0; i < count; i++) {
                for (int j = i + 1; j < count; j++) {
                    if (prices[i] > prices[j]) {
                        found++;
                    }
                }
            }
            return found;
        }

        int records() {
            int found = 0;
            int greatest = 0;
            for (int i = 0; i < count; i++) {
                if (prices[i] > greatest) {
                    greatest = prices[i];
                    found++;
                }
            }
            return found;
        }

        int hats() {
            int steps = 0;
            for (int i = 1; i < count; i++) {
                steps += Math.abs(prices[i] - prices[i - 1]);
            }
            return steps;
        }

        int longestRun() {
            int longest = 0;
            int run = 0;
            for (int i = 0; i < count; i++) {
                run = i > 0 && prices[i] > prices[i - 1] ? run + 1 : 1;
                longest = Math.max(longest, run);
            }
            return longest;
        }
    }

    /** The told ways, and how a hawk catches a lark on them. */
    private static final class Heath {
        static final int PLACES = 8;
        static final int MOST = 14;
        final int[] ends = new int[MOST * 2];
        int count;
        /** Of each place the set of those that one going leads to, itself too. */
        private final int[] near = new int[PLACES];
        /** Of each hawk's and lark's places, the hawk's turn, how many goings it takes; NONE: not known yet. */
        private final int[] known = new int[PLACES * PLACES];

        void copyFrom(Heath other) {
            copy(other.ends, ends);
            count = other.count;
        }

        int takes(int a, int b) {
            if (a == NONE) {
                count = 0;
                return 0;
            }
            if (isOutside(a, 0, PLACES - 1) || isOutside(b, 0, PLACES - 1) || a == b || count >= MOST) {
                return NONE;
            }
            ends[count * 2] = a;
            ends[count * 2 + 1] = b;
            count++;
            return count;
        }

        int goings(int hawk, int lark) {
            joins();
            for (int spot = 0; spot < PLACES * PLACES; spot++) {
                known[spot] = spot / PLACES == spot % PLACES ? 0 : NONE;
            }
            boolean isMore = true;
            for (int turn = 1; turn <= PLACES * PLACES && isMore; turn++) {
                isMore = learns(turn);
            }
            return known[hawk * PLACES + lark];
        }

        private void joins() {
            for (int spot = 0; spot < PLACES; spot++) {
                near[spot] = 1 << spot;
            }
            for (int i = 0; i < count; i++) {
                int a = ends[i * 2];
                int b = ends[i * 2 + 1];
                near[a] |= 1 << b;
                near[b] |= 1 << a;
            }
        }

        /** Finds the couples of places that take just so many goings; false: there are none. */
        private boolean learns(int turn) {
            boolean isAny = false;
            for (int spot = 0; spot < PLACES * PLACES; spot++) {
                if (known[spot] == NONE && catches(spot / PLACES, spot % PLACES, turn)) {
                    known[spot] = turn;
                    isAny = true;
                }
            }
            return isAny;
        }

        private boolean catches(int hawk, int lark, int turn) {
            for (int to = 0; to < PLACES; to++) {
                if ((near[hawk] >> to & 1) == 1 && (to == lark || isHopeless(to, lark, turn))) {
                    return true;
                }
            }
            return false;
        }

        /** Wherever the lark goes then, it is caught in fewer goings than turn. */
        private boolean isHopeless(int hawk, int lark, int turn) {
            for (int to = 0; to < PLACES; to++) {
                int left = known[hawk * PLACES + to];
                if ((near[lark] >> to & 1) == 1 && (left == NONE || left >= turn)) {
                    return false;
                }
            }
            return true;
        }
    }

    /** The changers' bench: the told changes of moneys, and what is told for the sack. */
    private static final class Bench {
        static final int MONEYS = 4;
        static final int MOST = 8;
        final int[] rates = new int[MONEYS * MONEYS];
        final int[] weights = new int[MOST];
        final int[] worths = new int[MOST];
        int count;
        private final int[] order = new int[MOST];
        private int above;
        private int below;

        void copyFrom(Bench other) {
            copy(other.rates, rates);
            copy(other.weights, weights);
            copy(other.worths, worths);
            count = other.count;
        }

        boolean changes(int a, int b, int nd) {
            if (isOutside(a, 0, MONEYS - 1) || isOutside(b, 0, MONEYS - 1) || a == b) {
                return false;
            }
            if (nd != 0 && (isOutside(nd, 11, 99) || nd % 10 == 0)) {
                return false;
            }
            rates[a * MONEYS + b] = nd;
            return true;
        }

        int bestRound(int a, int what) {
            above = NONE;
            below = NONE;
            roams(a, a, 1 << a, 1, 1);
            if (above == NONE) {
                return NONE;
            }
            int common = common(above, below);
            return what == 0 ? above / common : below / common;
        }

        /** Goes on from here to home, if another money was between, and to each one not gone through. */
        private void roams(int home, int here, int gone, int n, int d) {
            for (int to = 0; to < MONEYS; to++) {
                int rate = rates[here * MONEYS + to];
                if (rate == 0) {
                    continue;
                }
                int moreN = n * (rate / 10);
                int moreD = d * (rate % 10);
                if (to == home) {
                    comparesRound(moreN, moreD);
                } else if ((gone >> to & 1) == 0) {
                    roams(home, to, gone | 1 << to, moreN, moreD);
                }
            }
        }

        private void comparesRound(int n, int d) {
            if (above == NONE || n * below > above * d) {
                above = n;
                below = d;
            }
        }

        int takes(int weight, int worth) {
            if (weight == NONE) {
                count = 0;
                return 0;
            }
            if (isOutside(weight, 1, 30) || isOutside(worth, 1, 99) || count >= MOST) {
                return NONE;
            }
            weights[count] = weight;
            worths[count] = worth;
            count++;
            return count;
        }

        private void sorts() {
            for (int i = 0; i < count; i++) {
                int hole = i;
                for (; hole > 0 && isDearer(i, order[hole - 1]); hole--) {
                    order[hole] = order[hole - 1];
                }
                order[hole] = i;
            }
        }

        private boolean isDearer(int a, int b) {
            return worths[a] * weights[b] > worths[b] * weights[a];
        }

        int fits(int room, int what) {
            sorts();
            int left = room;
            int sum = 0;
            int whole = 0;
            while (whole < count && weights[order[whole]] <= left) {
                left -= weights[order[whole]];
                sum += worths[order[whole]];
                whole++;
            }
            if (what == 2) {
                return whole;
            }
            int under = whole < count ? weights[order[whole]] : 1;
            int over = whole < count ? sum * under + worths[order[whole]] * left : sum;
            int common = common(over, under);
            return what == 0 ? over / common : under / common;
        }
    }

    /** What is asked of numbers alone. */
    private static final class Sums {
        private static final int[] STICKS = {6, 2, 5, 5, 4, 5, 6, 3, 7, 6};
        private static final int[] ONES = {4, 3, 3, 5, 4, 4, 3, 5, 5, 4, 3, 6, 6, 8, 8, 7, 7, 9, 8, 8};
        private static final int[] TENS = {0, 3, 6, 6, 5, 5, 5, 7, 6, 6};
        private static final int HUNDRED = 7;
        private final int[] ways = new int[61];
        /** Of each height the set of sendings behind which who is to go on wins. */
        private final int[] wins = new int[101];

        static int partOf(int a, int b, int what) {
            long over = a;
            long under = b;
            int taken = 0;
            while (over > 0 && under > 0 && taken < 64) {
                long n = (under + over - 1) / over;
                taken++;
                if (taken == what) {
                    return (int) n;
                }
                over = over * n - under;
                under = under * n;
            }
            return what == 0 ? taken : NONE;
        }

        static int sticksOf(int v) {
            int sum = STICKS[v % 10];
            for (int rest = v / 10; rest > 0; rest /= 10) {
                sum += STICKS[rest % 10];
            }
            return sum;
        }

        /** The fewest digits there can be, and each as small as leaves enough for those behind. */
        static int leastOfSticks(int n) {
            int digits = (n + 6) / 7;
            int left = n;
            int number = 0;
            for (int behind = digits - 1; behind >= 0; behind--) {
                int digit = behind == digits - 1 && digits > 1 ? 1 : 0;
                while (digit < 9 && isOutside(left - STICKS[digit], behind * 2, behind * 7)) {
                    digit++;
                }
                left -= STICKS[digit];
                number = number * 10 + digit;
            }
            return number;
        }

        static int otherWayTwos(int n) {
            int bits = 0;
            int rest = n;
            for (int i = 0; i < 31 && rest != 0; i++) {
                int digit = rest & 1;
                bits |= digit << i;
                rest = (rest - digit) / -2;
            }
            return bits;
        }

        static int lengthOf(int bits) {
            int size = 1;
            while (size < 31 && bits >> size != 0) {
                size++;
            }
            return size;
        }

        static int lettersOf(int n) {
            if (n < 100) {
                return lettersBelowHundred(n);
            }
            int rest = n % 100;
            return ONES[n / 100] + HUNDRED + (rest == 0 ? 0 : lettersBelowHundred(rest));
        }

        private static int lettersBelowHundred(int n) {
            if (n < 20) {
                return ONES[n];
            }
            return TENS[n / 10] + (n % 10 == 0 ? 0 : ONES[n % 10]);
        }

        static int longestUpTo(int n) {
            int which = 0;
            int most = 0;
            for (int i = 0; i <= n; i++) {
                int letters = lettersOf(i);
                if (letters > most) {
                    most = letters;
                    which = i;
                }
            }
            return which;
        }

        static int songOfFifths(int n, int what) {
            int threes = 1;
            for (int i = 0; i < Math.abs(n); i++) {
                threes *= 3;
            }
            int twos = 1;
            for (int i = 0; i < 30 && twos * 2 <= threes; i++) {
                twos *= 2;
            }
            if (n < 0) {
                return what == 0 ? twos * 2 : threes;
            }
            return what == 0 ? threes : twos;
        }

        int unlikeParts(int n) {
            Arrays.fill(ways, 0);
            ways[0] = 1;
            for (int part = 1; part <= n; part++) {
                for (int sum = n; sum >= part; sum--) {
                    ways[sum] += ways[sum - part];
                }
            }
            return ways[n];
        }

        /** Parts of 1 up to most, or the odd ones of them alone. */
        int partsUpTo(int n, int most, boolean odd) {
            Arrays.fill(ways, 0);
            ways[0] = 1;
            for (int part = 1; part <= most; part += odd ? 2 : 1) {
                for (int sum = part; sum <= n; sum++) {
                    ways[sum] += ways[sum - part];
                }
            }
            return ways[n];
        }

        int firstSending(int h, int s, int k) {
            for (int at = s - 1; at >= h; at--) {
                wins[at] = 0;
                for (int last = 0; last <= k; last++) {
                    if (winningSending(at, s, k, last) != NONE) {
                        wins[at] |= 1 << last;
                    }
                }
            }
            return winningSending(h, s, k, 0);
        }

        private int winningSending(int at, int s, int k, int last) {
            for (int up = 1; up <= k && at + up < s; up++) {
                if (up != last && (wins[at + up] >> up & 1) == 0) {
                    return up;
                }
            }
            return NONE;
        }
    }
}
