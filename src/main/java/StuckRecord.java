import java.util.Arrays;

/** A sticky spiral that hangs from a tack: what comes up against it stays, and is a record. */
public final class StuckRecord {
    public static final int NONE = -1;

    private static final int NO_SUCH = NONE - 1;
    private static final int NO_LEAN = NONE - 999;
    private static final int NO_DATE = NONE - 999999;

    private static final int INCHES = 60;
    private static final int TURN = 10;
    private static final int MOST_THINGS = 20;
    private static final int MOST_BOOK = 150;
    private static final int MOST_LINES = 16;
    private static final int MOST_TAPE = 400;
    private static final int MOST_DAYS = 60;
    private static final int LAST_DAY = 9999;
    private static final int MOST_PAST = 6;
    private static final int STRIPS = 12;
    private static final int MOST_ROW = 8;
    private static final int MOST_WORDS = 6;
    private static final int MOST_LOOKS = 8;
    private static final int MOST_VEINS = 9;
    private static final int POINTS = 8;
    private static final int LAST_KIND = 5;
    private static final int WASP = 4;
    private static final int CERTAIN = 1000;
    private static final int LIKELY = 500;
    private static final int PRIME = 1000000007;

    private static final int TEXT_LAW = 0;
    private static final int TEXT_FLIGHT = 1;
    private static final int TEXT_SKY = 2;
    private static final int TEXT_STRIPS = 3;

    private static final int BOOK_CAME = 0;
    private static final int BOOK_GONE = 1;
    private static final int BOOK_LEG = 2;
    private static final int BOOK_FREED = 3;
    private static final int BOOK_FELL = 4;
    private static final int BOOK_TWEEZED = 5;

    private static final int FAULT_PLACE = 1;
    private static final int FAULT_NUMBER = 2;
    private static final int FAULT_MANY = 3;

    /** The KEYWORDS of all texts, each with a blank behind it; the numbers below count them. */
    private static final String WORDS = "sticks frees slides when or and not kind size life inch glue age limbs wind heat near day on at fly date sleeve word wasp veil boil dry strip ";
    private static final int STICKS = 0;
    private static final int FREES = 1;
    private static final int SLIDES = 2;
    private static final int WHEN = 3;
    private static final int OR = 4;
    private static final int AND = 5;
    private static final int NOT = 6;
    private static final int KIND = 7;
    private static final int SIZE = 8;
    private static final int LIFE = 9;
    private static final int INCH = 10;
    private static final int GLUE = 11;
    private static final int AGE = 12;
    private static final int LIMBS = 13;
    private static final int WIND = 14;
    private static final int HEAT = 15;
    private static final int NEAR = 16;
    private static final int DAY = 17;
    private static final int ON = 18;
    private static final int AT = 19;
    private static final int FLY = 20;
    private static final int VEIL = 25;
    private static final int BOIL = 26;
    private static final int DRY = 27;
    private static final int STRIP = 28;

    private final World world = new World();
    private final Told told = new Told();
    private final World imageWorld = new World();
    private final Told imageTold = new Told();
    private boolean imageTaken = false;
    private final World[] past = new World[MOST_PAST];
    private int pastEnd = 0;
    private int pastSize = 0;
    private final Reader reader = new Reader();
    private final World dream = new World();
    private final Asker asker = new Asker();
    private final Layers layers = new Layers();
    private final Wings wingPair = new Wings();

    public StuckRecord() {
        for (int i = 0; i < MOST_PAST; i++) {
            past[i] = new World();
        }
    }

    public int state(int v) {
        int was = world.state;
        world.state = v;
        forget();
        return was;
    }

    public boolean set(int what, int who, int v) {
        boolean can = what == 0 ? setGlue(who, v)
                : what == 4 || what == 5 ? setSky(what, v)
                : setThing(what, world.find(who), v);
        if (can) {
            forget();
        }
        return can;
    }

    private boolean setGlue(int inch, int v) {
        if (!within(inch, 0, INCHES - 1) || !within(v, 0, 99)) {
            return false;
        }
        world.glue[inch] = v;
        return true;
    }

    private boolean setSky(int what, int v) {
        if (!within(v, 0, 9)) {
            return false;
        }
        if (what == 4) {
            world.wind = v;
        } else {
            world.heat = v;
        }
        return true;
    }

    private static boolean setThing(int what, Thing thing, int v) {
        if (thing == null) {
            return false;
        }
        if (what == 1 && within(v, 1, 9)) {
            thing.size = v;
        } else if (what == 2 && within(v, 0, 9)) {
            thing.life = v;
        } else if (what == 3 && within(v, 0, 6)) {
            thing.limbs = v;
        } else {
            return false;
        }
        return true;
    }

    public int put(int kind, int size, int life, int inch) {
        if (!within(kind, 0, LAST_KIND) || !within(size, 1, 9) || !within(life, 0, 9)) {
            return NONE;
        }
        if (!world.hasRoom(inch)) {
            return NONE;
        }
        remember();
        return world.settle(world.newcomer(kind, size, life, inch));
    }

    public boolean act(int what, int who, int v) {
        if (what == 0 && world.find(who) != null) {
            remember();
            world.tweeze(who);
            return true;
        }
        if (what == 1 && within(who, 0, INCHES - 1) && within(v, 0, 99)) {
            remember();
            world.glue[who] = v;
            return true;
        }
        return false;
    }

    public int days(int n) {
        if (!within(n, 1, MOST_DAYS) || world.day + n > LAST_DAY) {
            return NONE;
        }
        int before = world.freed;
        for (int i = 0; i < n; i++) {
            remember();
            world.liveDay(told, false);
        }
        return world.freed - before;
    }

    public int feed(int a, int b, int c, int d, int e) {
        if (reader.length + 20 > MOST_TAPE) {
            return NONE;
        }
        reader.append(a);
        reader.append(b);
        reader.append(c);
        reader.append(d);
        reader.append(e);
        return reader.length;
    }

    public boolean end(int n) {
        if (n < 0 || n > reader.length) {
            return false;
        }
        reader.length = n;
        return true;
    }

    public int text(int k) {
        int lines = reader.read(k);
        if (lines == NONE) {
            return NONE;
        }
        told.take(k, reader);
        if (k == TEXT_FLIGHT || k == TEXT_SKY) {
            forget();
        }
        return lines;
    }

    public int fault(int what) {
        return what == 0 ? reader.fault : what == 1 ? reader.faultPlace : NONE;
    }

    public int inch(int inch, int what) {
        if (!within(inch, 0, INCHES - 1)) {
            return NO_SUCH;
        }
        switch (what) {
            case 0: return world.glue[inch];
            case 1: return world.legs[inch];
            case 2: return world.numberAt[inch];
            default: return NO_SUCH;
        }
    }

    public int of(int thing, int what) {
        Thing t = world.find(thing);
        if (t == null) {
            return NONE;
        }
        switch (what) {
            case 0: return t.kind;
            case 1: return t.size;
            case 2: return t.life;
            case 3: return t.at;
            case 4: return t.age;
            case 5: return t.limbs;
            case 6: return told.law.tells(STICKS, world, t);
            case 7: return told.law.tells(FREES, world, t);
            case 8: return told.law.tells(SLIDES, world, t);
            case 9: return world.near(t.at);
            default: return NONE;
        }
    }

    public int book(int i, int what) {
        if (!within(i, 0, world.book.size - 1) || !within(what, 0, 3)) {
            return NO_SUCH;
        }
        return world.book.get(i, what);
    }

    public int goes(int n, int what) {
        if (!within(n, 1, MOST_DAYS) || !within(what, 0, 3)) {
            return NONE;
        }
        dream.copyFrom(world);
        for (int i = 0; i < n; i++) {
            dream.liveDay(told, true);
        }
        switch (what) {
            case 0: return dream.count;
            case 1: return dream.freed;
            case 2: return sum(dream.legs);
            default: return sum(dream.glue);
        }
    }

    public int nearest(int kind) {
        for (int i = 0; i < INCHES; i++) {
            Thing t = world.thingAt(i);
            if (t != null && t.kind == kind) {
                return t.number;
            }
        }
        return NONE;
    }

    public int heaps(int what) {
        return within(what, 0, 2) ? asker.heap(world, what) : NONE;
    }

    public int kind(int v) {
        return tell(told.row, v, 0, v == NONE, within(v, 0, LAST_KIND));
    }

    public int says(int what) {
        switch (what) {
            case 0: return asker.ways(world, told.row, false);
            case 1: return asker.ways(world, told.row, true);
            case 2: return asker.longest(world);
            default: return NONE;
        }
    }

    public int pass(int w, int what) {
        if (!within(w, 1, INCHES - 1) || !within(what, 0, 1)) {
            return NONE;
        }
        int first = NONE;
        int many = 0;
        int open = 0;
        for (int i = 0; i < INCHES; i++) {
            open = world.isTaken(i) ? 0 : open + 1;
            if (open >= w) {
                first = many == 0 ? i - w + 1 : first;
                many++;
            }
        }
        return what == 0 ? first : many;
    }

    public int words(int legs, int worth) {
        return tell(told.words, legs, worth, legs == NONE, within(legs, 1, 30) && within(worth, 0, 99));
    }

    public int legs(int what) {
        return within(what, 0, 1) ? bestWords(what) : NONE;
    }

    private int bestWords(int what) {
        int room = sum(world.legs);
        int most = 0;
        int best = 0;
        for (int set = 1; set < 1 << told.words.size; set++) {
            int worth = told.words.sumOf(set, 1);
            if (worth > most && told.words.sumOf(set, 0) <= room) {
                most = worth;
                best = set;
            }
        }
        return what == 0 ? most : best;
    }

    public int order(int what) {
        layers.learn(told.strips);
        if (within(what, 10, 10 + STRIPS - 1)) {
            return layers.earliest(what - 10);
        }
        if (within(what, 30, 30 + STRIPS - 1)) {
            return layers.above(what - 30);
        }
        switch (what) {
            case 0: return layers.firsts();
            case 1: return layers.rounds();
            case 2: return layers.tops();
            default: return NONE;
        }
    }

    public int sight(int strips) {
        return tell(told.looks, strips, 0, strips == NONE, within(strips, 0, (1 << STRIPS) - 1));
    }

    public int cover(int what) {
        return within(what, 0, 1) ? fewestLooks(what) : NONE;
    }

    private int fewestLooks(int what) {
        int all = told.looks.unionOf((1 << told.looks.size) - 1);
        int fewest = MOST_LOOKS + 1;
        int best = 0;
        for (int set = 0; set < 1 << told.looks.size; set++) {
            if (Integer.bitCount(set) < fewest && told.looks.unionOf(set) == all) {
                fewest = Integer.bitCount(set);
                best = set;
            }
        }
        return what == 0 ? fewest : best;
    }

    public int vein(int wing, int from, int to) {
        if (!within(wing, 0, 1)) {
            return NONE;
        }
        boolean can = within(from, 0, POINTS - 1) && within(to, 0, POINTS - 1) && from != to;
        return tell(wing == 0 ? told.veins : told.otherVeins, from, to, from == NONE, can);
    }

    public int wings(int what) {
        if (!within(what, 0, 1)) {
            return NONE;
        }
        int ways = wingPair.numberings(told.veins, told.otherVeins);
        return what == 1 ? ways : ways > 0 ? 1 : 0;
    }

    public int weekday(int date) {
        int day = Dates.dayNumber(date);
        return day == NONE ? NONE : day % 7;
    }

    public int between(int from, int to) {
        int first = Dates.dayNumber(from);
        int last = Dates.dayNumber(to);
        return first == NONE || last == NONE ? NO_DATE : last - first;
    }

    public int leans(int thing) {
        Thing t = world.find(thing);
        return t == null ? NO_LEAN : asker.lean(world, t.at);
    }

    public int go(int v) {
        if (v == NONE) {
            return leastWind();
        }
        return within(v, 0, 9) ? freeBy(v) : NONE;
    }

    private int leastWind() {
        for (int v = 0; v <= 9; v++) {
            if (freeBy(v) > 0) {
                return v;
            }
        }
        return NONE;
    }

    private int freeBy(int wind) {
        dream.copyFrom(world);
        dream.wind = wind;
        int many = 0;
        for (int i = 0; i < dream.count; i++) {
            Thing t = dream.things[i];
            if (t.limbs <= 1 && told.law.tells(FREES, dream, t) >= LIKELY) {
                many++;
            }
        }
        return many;
    }

    public int squires(int what) {
        return within(what, 0, 1) ? asker.balance(world, what) : NONE;
    }

    public int held(int n, int k, int what) {
        if (!within(n, 1, 30) || !within(k, 1, 9) || !within(what, 0, 1)) {
            return NONE;
        }
        return asker.fingers(n, k, what);
    }

    public int game(int what) {
        return within(what, 0, 1) ? asker.bestTake(world, what) : NONE;
    }

    public boolean undo() {
        if (pastSize == 0) {
            return false;
        }
        pastSize--;
        pastEnd = (pastEnd + MOST_PAST - 1) % MOST_PAST;
        world.copyFrom(past[pastEnd]);
        return true;
    }

    public boolean image(boolean taken) {
        if (taken) {
            imageWorld.copyFrom(world);
            imageTold.copyFrom(told);
            imageTaken = true;
            return true;
        }
        if (!imageTaken) {
            return false;
        }
        world.copyFrom(imageWorld);
        told.copyFrom(imageTold);
        forget();
        return true;
    }

    public int look(int what) {
        switch (what) {
            case 0: return world.count;
            case 1: return world.came;
            case 2: return world.freed;
            case 3: return world.read;
            case 4: return world.wind;
            case 5: return world.heat;
            case 6: return sum(world.legs);
            case 7: return world.day;
            case 8: return world.book.size;
            case 9: return world.state;
            case 10: return told.law.lines.size;
            case 11: return told.flight.size;
            case 12: return told.sky.size;
            case 13: return told.strips.size;
            case 14: return pastSize;
            default: return NONE;
        }
    }

    private void remember() {
        past[pastEnd].copyFrom(world);
        pastEnd = (pastEnd + 1) % MOST_PAST;
        pastSize = Math.min(pastSize + 1, MOST_PAST);
    }

    private void forget() {
        pastSize = 0;
    }

    /** One more line of what is told for thought, or none any more. */
    private static int tell(Rows rows, int a, int b, boolean none, boolean can) {
        if (none) {
            rows.size = 0;
            return 0;
        }
        if (!can || rows.isFull()) {
            return NONE;
        }
        rows.add(a, b, 0, 0, 0);
        return rows.size;
    }

    private static boolean within(int v, int least, int most) {
        return v >= least && v <= most;
    }

    private static int sum(int[] row) {
        int all = 0;
        for (int v : row) {
            all += v;
        }
        return all;
    }

    /** Lines of a few numbers each, up to so many lines. */
    private static final class Rows {
        final int width;
        final int most;
        final int[] cells;
        int size = 0;

        Rows(int width, int most) {
            this.width = width;
            this.most = most;
            this.cells = new int[width * most];
        }

        boolean isFull() {
            return size >= most;
        }

        /** Of the five numbers a line has as many as it is wide. */
        void add(int a, int b, int c, int d, int e) {
            if (isFull()) {
                return;
            }
            size++;
            write(0, a);
            write(1, b);
            write(2, c);
            write(3, d);
            write(4, e);
        }

        private void write(int column, int v) {
            int cell = (size - 1) * width + column;
            if (column < width && cell >= 0 && cell < cells.length) {
                cells[cell] = v;
            }
        }

        int get(int line, int column) {
            boolean there = line >= 0 && line < size && column >= 0 && column < width;
            return there ? cells[line * width + column] : 0;
        }

        int sumOf(int set, int column) {
            int all = 0;
            for (int i = 0; i < size; i++) {
                all += (set >> i & 1) == 1 ? get(i, column) : 0;
            }
            return all;
        }

        int unionOf(int set) {
            int all = 0;
            for (int i = 0; i < size; i++) {
                all |= (set >> i & 1) == 1 ? get(i, 0) : 0;
            }
            return all;
        }

        void copyFrom(Rows other) {
            size = Math.min(other.size, most);
            int many = Math.min(size * width, other.cells.length);
            System.arraycopy(other.cells, 0, cells, 0, many);
        }
    }

    private static final class Thing {
        int number = 0;
        int kind = 0;
        int size = 1;
        int life = 0;
        int at = 0;
        int age = 0;
        int limbs = 6;

        void copyFrom(Thing other) {
            number = other.number;
            kind = other.kind;
            size = other.size;
            life = other.life;
            at = other.at;
            age = other.age;
            limbs = other.limbs;
        }
    }

    /** All that a DAY can change, so that it can be kept and gone back to as a whole. */
    private static final class World {
        final int[] glue = new int[INCHES];
        final int[] legs = new int[INCHES];
        final int[] numberAt = new int[INCHES];
        final Thing[] things = new Thing[MOST_THINGS];
        final Rows book = new Rows(4, MOST_BOOK);
        int count = 0;
        int state = 0;
        int wind = 0;
        int heat = 0;
        int came = 0;
        int freed = 0;
        int read = 0;
        int day = 0;

        World() {
            Arrays.fill(glue, 50);
            Arrays.fill(numberAt, NONE);
            for (int i = 0; i < MOST_THINGS; i++) {
                things[i] = new Thing();
            }
        }

        void copyFrom(World other) {
            System.arraycopy(other.glue, 0, glue, 0, INCHES);
            System.arraycopy(other.legs, 0, legs, 0, INCHES);
            System.arraycopy(other.numberAt, 0, numberAt, 0, INCHES);
            for (int i = 0; i < other.count; i++) {
                things[i].copyFrom(other.things[i]);
            }
            book.copyFrom(other.book);
            count = other.count;
            state = other.state;
            wind = other.wind;
            heat = other.heat;
            came = other.came;
            freed = other.freed;
            read = other.read;
            day = other.day;
        }

        boolean isTaken(int inch) {
            return inch >= 0 && inch < INCHES && numberAt[inch] != NONE;
        }

        boolean hasRoom(int inch) {
            return inch >= 0 && inch < INCHES && numberAt[inch] == NONE && count < MOST_THINGS;
        }

        int near(int inch) {
            int many = isTaken(inch - 1) ? 1 : 0;
            many += isTaken(inch + 1) ? 1 : 0;
            many += isTaken(inch - TURN) ? 1 : 0;
            many += isTaken(inch + TURN) ? 1 : 0;
            return many;
        }

        private int slotOf(int number) {
            for (int i = 0; i < count; i++) {
                if (things[i].number == number) {
                    return i;
                }
            }
            return NONE;
        }

        Thing find(int number) {
            int slot = slotOf(number);
            return slot == NONE ? null : things[slot];
        }

        Thing thingAt(int inch) {
            return isTaken(inch) ? find(numberAt[inch]) : null;
        }

        /** The first free slot holds what comes up, though it is not one of the THINGS yet. */
        Thing newcomer(int kind, int size, int life, int inch) {
            Thing t = things[Math.min(count, MOST_THINGS - 1)];
            t.number = came;
            t.kind = kind;
            t.size = size;
            t.life = life;
            t.at = inch;
            t.age = 0;
            t.limbs = 6;
            return t;
        }

        int settle(Thing newcomer) {
            numberAt[newcomer.at] = newcomer.number;
            count++;
            came++;
            write(BOOK_CAME, newcomer.number, newcomer.at);
            return newcomer.number;
        }

        void tweeze(int number) {
            int slot = slotOf(number);
            if (slot != NONE) {
                read++;
                write(BOOK_TWEEZED, number, things[slot].at);
                remove(slot);
            }
        }

        private void remove(int slot) {
            Thing gone = things[slot];
            numberAt[gone.at] = NONE;
            count--;
            for (int i = slot; i < count; i++) {
                things[i] = things[i + 1];
            }
            things[count] = gone;
        }

        private void write(int what, int which, int much) {
            book.add(day, what, which, much, 0);
        }

        private int draw(int m) {
            state = 1664525 * state + 1013904223;
            return (state >>> 8) % m;
        }

        private boolean happens(int chance, boolean dreamt) {
            return dreamt ? chance >= LIKELY : draw(CERTAIN) < chance;
        }

        void liveDay(Told told, boolean dreamt) {
            for (int i = 0; i < told.sky.size; i++) {
                if (told.sky.get(i, 0) == day) {
                    weather(told.sky.get(i, 1), told.sky.get(i, 2), told.sky.get(i, 3));
                }
            }
            for (int i = 0; i < told.flight.size; i++) {
                if (told.flight.get(i, 0) == day) {
                    comeUp(told.law, told.flight, i, dreamt);
                }
            }
            int slot = 0;
            for (int n = 0; n < MOST_THINGS && slot < count; n++) {
                slot = struggle(told.law, slot, dreamt);
            }
            for (int i = INCHES - 1; i >= 0; i--) {
                if (isTaken(i)) {
                    slide(told.law, slotOf(numberAt[i]));
                }
            }
            growOld();
        }

        private void weather(int word, int a, int b) {
            if (word == WIND) {
                wind = a;
            } else if (word == HEAT) {
                heat = a;
            } else if (word == BOIL && a >= 0 && a < INCHES) {
                glue[a] = b;
            } else if (word == DRY) {
                for (int i = 0; i < INCHES; i++) {
                    glue[i] = Math.max(0, glue[i] - a);
                }
            }
        }

        private void comeUp(Law law, Rows flight, int line, boolean dreamt) {
            int inch = flight.get(line, 4);
            if (!hasRoom(inch)) {
                return;
            }
            Thing t = newcomer(flight.get(line, 1), flight.get(line, 2), flight.get(line, 3), inch);
            if (happens(law.tells(STICKS, this, t), dreamt)) {
                settle(t);
                glue[inch] = Math.max(0, glue[inch] - t.size);
            } else {
                write(BOOK_GONE, NONE, inch);
            }
        }

        /** A THING may lose a leg or get free: the slot of the one behind it. */
        private int struggle(Law law, int slot, boolean dreamt) {
            Thing t = things[slot];
            int chance = law.tells(FREES, this, t);
            if (chance <= 0 || !happens(chance, dreamt)) {
                return slot + 1;
            }
            if (t.limbs <= 1) {
                freed++;
                write(BOOK_FREED, t.number, t.at);
                remove(slot);
                return slot;
            }
            t.limbs--;
            legs[t.at]++;
            t.life = Math.max(0, t.life - 1);
            write(BOOK_LEG, t.number, t.at);
            return slot + 1;
        }

        private void slide(Law law, int slot) {
            if (slot == NONE) {
                return;
            }
            Thing t = things[slot];
            int steps = law.tells(SLIDES, this, t);
            for (int n = 0; n < steps && !isTaken(t.at + 1); n++) {
                if (t.at >= INCHES - 1) {
                    freed++;
                    write(BOOK_FELL, t.number, t.at);
                    remove(slot);
                    return;
                }
                numberAt[t.at] = NONE;
                t.at++;
                numberAt[t.at] = t.number;
            }
        }

        private void growOld() {
            for (int i = 0; i < count; i++) {
                things[i].age = Math.min(999, things[i].age + 1);
            }
            for (int i = 0; i < INCHES && heat > 4; i++) {
                if (!isTaken(i)) {
                    glue[i] = Math.max(0, glue[i] - 1);
                }
            }
            day++;
        }
    }

    /** All that is told as texts and for thought. */
    private static final class Told {
        final Law law = new Law();
        final Rows flight = new Rows(5, MOST_LINES);
        final Rows sky = new Rows(5, MOST_LINES);
        final Rows strips = new Rows(5, MOST_LINES);
        final Rows row = new Rows(1, MOST_ROW);
        final Rows words = new Rows(2, MOST_WORDS);
        final Rows looks = new Rows(1, MOST_LOOKS);
        final Rows veins = new Rows(2, MOST_VEINS);
        final Rows otherVeins = new Rows(2, MOST_VEINS);

        void take(int k, Reader reader) {
            if (k == TEXT_LAW) {
                law.take(reader.found, reader.code, reader.codeSize);
            } else if (k == TEXT_FLIGHT) {
                flight.copyFrom(reader.found);
            } else if (k == TEXT_SKY) {
                sky.copyFrom(reader.found);
            } else if (k == TEXT_STRIPS) {
                strips.copyFrom(reader.found);
            }
        }

        void copyFrom(Told other) {
            law.take(other.law.lines, other.law.code, other.law.codeSize);
            flight.copyFrom(other.flight);
            sky.copyFrom(other.sky);
            strips.copyFrom(other.strips);
            row.copyFrom(other.row);
            words.copyFrom(other.words);
            looks.copyFrom(other.looks);
            veins.copyFrom(other.veins);
            otherVeins.copyFrom(other.otherVeins);
        }
    }

    /**
     * THE LAW as code for a stack. A line is: word, where its E begins, where its B begins, where it
     * ends (a line without B ends where its B would begin).
     */
    private static final class Law {
        /** A code below VARIABLE is a NUMBER, one from PART on a part by what is above PART. */
        static final int VARIABLE = 10000;
        static final int PLUS = 11000;
        static final int LESS = 11001;
        static final int TIMES = 11002;
        static final int BELOW = 11003;
        static final int ALIKE = 11004;
        static final int ABOVE = 11005;
        static final int BOTH = 11006;
        static final int EITHER = 11007;
        static final int OTHERWISE = 11008;
        static final int PART = 20000;
        /** Eight open ( or not hold two values each, an E three: far below this. */
        static final int DEEPEST = 64;

        final Rows lines = new Rows(5, MOST_LINES);
        final int[] code = new int[MOST_TAPE];
        int codeSize = 0;
        final int[] stack = new int[DEEPEST];

        void take(Rows newLines, int[] newCode, int newSize) {
            lines.copyFrom(newLines);
            codeSize = Math.min(Math.min(newSize, newCode.length), MOST_TAPE);
            System.arraycopy(newCode, 0, code, 0, codeSize);
        }

        int tells(int word, World world, Thing t) {
            int told = usual(word, world, t);
            for (int i = 0; i < lines.size; i++) {
                int begins = lines.get(i, 2);
                int ends = lines.get(i, 3);
                boolean meant = lines.get(i, 0) == word;
                if (meant && (begins == ends || value(begins, ends, world, t) != 0)) {
                    told = value(lines.get(i, 1), begins, world, t);
                    break;
                }
            }
            return Math.max(0, Math.min(told, word == SLIDES ? 9 : CERTAIN));
        }

        private int usual(int word, World world, Thing t) {
            switch (word) {
                case STICKS: return 10 * world.glue[t.at] - 50 * world.wind;
                case FREES: return 20 * t.life + 10 * world.wind - 2 * world.glue[t.at];
                default: return world.heat / 4;
            }
        }

        private int value(int from, int to, World world, Thing t) {
            int top = 0;
            for (int i = Math.max(0, from); i < to && i < codeSize; i++) {
                int c = code[i];
                if (c < PLUS) {
                    if (top >= DEEPEST) {
                        return 0;
                    }
                    stack[top] = c < VARIABLE ? c : variable(c - VARIABLE, world, t);
                    top++;
                } else if (c >= PART || c == OTHERWISE) {
                    if (top < 1) {
                        return 0;
                    }
                    stack[top - 1] = changed(c, stack[top - 1]);
                } else {
                    if (top < 2) {
                        return 0;
                    }
                    top--;
                    stack[top - 1] = joined(c, stack[top - 1], stack[top]);
                }
            }
            return top < 1 ? 0 : stack[0];
        }

        private static int changed(int c, int a) {
            if (c > PART) {
                return a / (c - PART);
            }
            return a == 0 ? 1 : 0;
        }

        private static int joined(int c, int a, int b) {
            switch (c) {
                case PLUS: return a + b;
                case LESS: return a - b;
                case TIMES: return a * b;
                case BELOW: return a < b ? 1 : 0;
                case ALIKE: return a == b ? 1 : 0;
                case ABOVE: return a > b ? 1 : 0;
                case BOTH: return a & b;
                default: return a | b;
            }
        }

        private static int variable(int word, World world, Thing t) {
            switch (word) {
                case KIND: return t.kind;
                case SIZE: return t.size;
                case LIFE: return t.life;
                case INCH: return t.at;
                case GLUE: return world.glue[t.at];
                case AGE: return t.age;
                case LIMBS: return t.limbs;
                case WIND: return world.wind;
                case HEAT: return world.heat;
                case NEAR: return world.near(t.at);
                default: return world.day;
            }
        }
    }

    /** The TAPE and how it is read: first into tokens, then line by line. */
    private static final class Reader {
        static final int END = 0;
        static final int BAD = 1;
        static final int NUMBER = 2;
        static final int KEYWORD = 3;
        static final int SIGN = 4;
        static final int MOST_OPEN = 8;
        static final String SIGNS = ";+-*/()<=>";

        final int[] tape = new int[MOST_TAPE];
        int length = 0;
        int fault = 0;
        int faultPlace = NONE;
        final Rows found = new Rows(5, MOST_LINES);
        final int[] code = new int[MOST_TAPE];
        int codeSize = 0;
        private final int[] sorts = new int[MOST_TAPE + 1];
        private final int[] values = new int[MOST_TAPE + 1];
        private final int[] places = new int[MOST_TAPE + 1];
        private int tokens = 0;
        private int next = 0;
        private final int[] line = new int[5];

        void append(int four) {
            for (int shift = 24; shift >= 0 && length < MOST_TAPE; shift -= 8) {
                tape[length] = four >>> shift & 255;
                length++;
            }
        }

        /** How many lines the TAPE has as TEXT k, which are found and code then; NONE if it can't be. */
        int read(int k) {
            fault = 0;
            faultPlace = NONE;
            found.size = 0;
            codeSize = 0;
            split();
            length = 0;
            if (k < TEXT_LAW || k > TEXT_STRIPS) {
                return NONE;
            }
            for (int n = 0; n <= MOST_LINES && sorts[next] != END; n++) {
                boolean well = k == TEXT_LAW ? readLaw()
                        : k == TEXT_FLIGHT ? readFlight()
                        : k == TEXT_SKY ? readSky()
                        : readStrips();
                if (!well) {
                    return NONE;
                }
                found.add(line[0], line[1], line[2], line[3], line[4]);
            }
            return found.size;
        }

        private void split() {
            tokens = 0;
            next = 0;
            int i = 0;
            for (int n = 0; n < MOST_TAPE && i < length; n++) {
                i = tape[i] == ' ' || tape[i] == '\n' ? i + 1 : token(i);
            }
            addToken(END, 0, length);
        }

        /** Takes the token that begins at a place: where it ends. */
        private int token(int from) {
            int to = from + 1;
            if (isLetter(tape[from])) {
                for (; to < length && isLetter(tape[to]); to++) {
                }
                int word = wordAt(from, to);
                addToken(word == NONE ? BAD : KEYWORD, word, from);
            } else if (isDigit(tape[from])) {
                int v = tape[from] - '0';
                for (; to < length && isDigit(tape[to]); to++) {
                    v = 10 * v + tape[to] - '0';
                }
                addToken(to - from > 4 ? BAD : NUMBER, v, from);
            } else {
                boolean known = SIGNS.indexOf((char) tape[from]) >= 0;
                addToken(known ? SIGN : BAD, tape[from], from);
            }
            return to;
        }

        private void addToken(int sort, int value, int place) {
            if (tokens <= MOST_TAPE) {
                sorts[tokens] = sort;
                values[tokens] = value;
                places[tokens] = place;
                tokens++;
            }
        }

        private static boolean isLetter(int c) {
            return c >= 'a' && c <= 'z' || c >= 'A' && c <= 'Z';
        }

        private static boolean isDigit(int c) {
            return c >= '0' && c <= '9';
        }

        private int wordAt(int from, int to) {
            int word = 0;
            int start = 0;
            for (int i = 0; i < WORDS.length(); i++) {
                if (WORDS.charAt(i) == ' ') {
                    if (i - start == to - from && stands(start, from, to)) {
                        return word;
                    }
                    word++;
                    start = i + 1;
                }
            }
            return NONE;
        }

        private boolean stands(int start, int from, int to) {
            for (int i = from; i < to; i++) {
                if (WORDS.charAt(start + i - from) != tape[i]) {
                    return false;
                }
            }
            return true;
        }

        /** Every method that reads answers whether it was well; this one tells that it was not. */
        private boolean fail(int what) {
            fault = what;
            faultPlace = places[next];
            return false;
        }

        private boolean isWord(int least, int most) {
            return sorts[next] == KEYWORD && values[next] >= least && values[next] <= most;
        }

        private boolean isSign(char sign) {
            return sorts[next] == SIGN && values[next] == sign;
        }

        private boolean takeFirst(int least, int most) {
            if (isWord(least, most) && found.isFull()) {
                return fail(FAULT_MANY);
            }
            return takeWord(least, most, 0);
        }

        private boolean takeWord(int least, int most, int column) {
            if (!isWord(least, most)) {
                return fail(FAULT_PLACE);
            }
            return keep(column);
        }

        private boolean takeNumber(int least, int most, int column) {
            if (sorts[next] != NUMBER) {
                return fail(FAULT_PLACE);
            }
            if (values[next] < least || values[next] > most) {
                return fail(FAULT_NUMBER);
            }
            return keep(column);
        }

        private boolean takeSign(char sign) {
            if (!isSign(sign)) {
                return fail(FAULT_PLACE);
            }
            return step();
        }

        private boolean keep(int column) {
            line[column] = values[next];
            return step();
        }

        /** The END is never stepped over, so next stays a token's. */
        private boolean step() {
            if (next < tokens - 1) {
                next++;
            }
            return true;
        }

        private boolean readFlight() {
            if (!takeFirst(ON, ON) || !takeNumber(0, 999, 0) || !takeWord(FLY, VEIL, 1)) {
                return false;
            }
            line[1] -= FLY;
            return takeNumber(1, 9, 2) && takeNumber(0, 9, 3)
                    && takeWord(AT, AT, 4) && takeNumber(0, INCHES - 1, 4) && takeSign(';');
        }

        private boolean readSky() {
            if (!takeFirst(ON, ON) || !takeNumber(0, 999, 0)) {
                return false;
            }
            boolean known = isWord(WIND, HEAT) || isWord(BOIL, DRY);
            if (!known) {
                return fail(FAULT_PLACE);
            }
            keep(1);
            boolean well;
            if (line[1] == BOIL) {
                well = takeNumber(0, INCHES - 1, 2) && takeNumber(0, 99, 3);
            } else if (line[1] == DRY) {
                well = takeNumber(1, 99, 2);
            } else {
                well = takeNumber(0, 9, 2);
            }
            return well && takeSign(';');
        }

        private boolean readStrips() {
            if (!takeFirst(STRIP, STRIP) || !takeNumber(0, STRIPS - 1, 0)
                    || !takeWord(ON, ON, 1) || !takeWord(STRIP, STRIP, 1)) {
                return false;
            }
            if (sorts[next] == NUMBER && values[next] == line[0]) {
                return fail(FAULT_NUMBER);
            }
            return takeNumber(0, STRIPS - 1, 1) && takeSign(';');
        }

        private boolean readLaw() {
            if (!takeFirst(STICKS, SLIDES)) {
                return false;
            }
            line[1] = codeSize;
            if (!expression()) {
                return false;
            }
            line[2] = codeSize;
            if (isWord(WHEN, WHEN)) {
                step();
                if (!condition(0)) {
                    return false;
                }
            }
            line[3] = codeSize;
            return takeSign(';');
        }

        /** B, in which so many ( and not are open. */
        private boolean condition(int open) {
            int ors = 0;
            for (int n = 0; n < MOST_TAPE; n++) {
                if (!single(open)) {
                    return false;
                }
                for (int m = 0; m < MOST_TAPE && isWord(AND, AND); m++) {
                    step();
                    if (!single(open)) {
                        return false;
                    }
                    emit(Law.BOTH);
                }
                if (ors > 0) {
                    emit(Law.EITHER);
                }
                ors++;
                if (!isWord(OR, OR)) {
                    return true;
                }
                step();
            }
            return false;
        }

        /** C, in which so many ( and not are open; two not undo one another. */
        private boolean single(int open) {
            int now = open;
            for (; now < MOST_OPEN && isWord(NOT, NOT); now++) {
                step();
            }
            boolean nested = isSign('(');
            if (now >= MOST_OPEN && (nested || isWord(NOT, NOT))) {
                return fail(FAULT_MANY);
            }
            if (nested) {
                step();
                if (!condition(now + 1) || !takeSign(')')) {
                    return false;
                }
            } else {
                if (!expression()) {
                    return false;
                }
                int sign = isSign('<') ? Law.BELOW : isSign('=') ? Law.ALIKE : isSign('>') ? Law.ABOVE : NONE;
                if (sign == NONE) {
                    return fail(FAULT_PLACE);
                }
                step();
                if (!expression()) {
                    return false;
                }
                emit(sign);
            }
            return (now - open) % 2 == 0 || emit(Law.OTHERWISE);
        }

        /** E: a + or - waits until the T behind it is written. */
        private boolean expression() {
            int waiting = NONE;
            boolean well = unit();
            for (int n = 0; n < MOST_TAPE && well; n++) {
                if (isSign('*')) {
                    step();
                    well = unit() && emit(Law.TIMES);
                } else if (isSign('/')) {
                    step();
                    well = divisor();
                } else {
                    if (waiting != NONE) {
                        emit(waiting);
                    }
                    if (!isSign('+') && !isSign('-')) {
                        return true;
                    }
                    waiting = isSign('+') ? Law.PLUS : Law.LESS;
                    step();
                    well = unit();
                }
            }
            return false;
        }

        private boolean unit() {
            boolean number = sorts[next] == NUMBER;
            if (!number && !isWord(KIND, DAY)) {
                return fail(FAULT_PLACE);
            }
            emit(number ? values[next] : Law.VARIABLE + values[next]);
            return step();
        }

        private boolean divisor() {
            if (sorts[next] != NUMBER) {
                return fail(FAULT_PLACE);
            }
            if (values[next] == 0) {
                return fail(FAULT_NUMBER);
            }
            emit(Law.PART + values[next]);
            return step();
        }

        private boolean emit(int c) {
            if (codeSize < MOST_TAPE) {
                code[codeSize] = c;
                codeSize++;
            }
            return true;
        }
    }

    /** What is asked in thought of the THINGS as they lie, and the rows that it needs. */
    private static final class Asker {
        /** Who must begin loses where these, of all SIZES by the bits, are together 0. */
        static final int[] WORTHS = {0, 1, 2, 1, 0, 1, 0, 1, 0, 1};
        static final int FAR = 1000;

        private final int[] seen = new int[INCHES];
        private final int[] queue = new int[INCHES];
        private final int[] chain = new int[INCHES];
        private final int[] ways = new int[MOST_ROW + 1];
        private final int[] fewest = new int[9 * MOST_THINGS + 1];
        private final int[] shares = new int[31];
        private int queued = 0;

        /** 0 how many parts, 1 how many THINGS the greatest has, 2 its least INCH. */
        int heap(World world, int what) {
            int parts = 0;
            int greatest = 0;
            int least = NONE;
            Arrays.fill(seen, 0);
            for (int i = 0; i < INCHES; i++) {
                queued = 0;
                reach(world, i);
                for (int head = 0; head < queued && head < INCHES; head++) {
                    reach(world, queue[head] - 1);
                    reach(world, queue[head] + 1);
                    reach(world, queue[head] - TURN);
                    reach(world, queue[head] + TURN);
                }
                parts += queued > 0 ? 1 : 0;
                if (queued > greatest) {
                    greatest = queued;
                    least = i;
                }
            }
            return what == 0 ? parts : what == 1 ? greatest : least;
        }

        private void reach(World world, int inch) {
            if (world.isTaken(inch) && seen[inch] == 0 && queued < INCHES) {
                seen[inch] = 1;
                queue[queued] = inch;
                queued++;
            }
        }

        /** In how many ways the row is read from the tack, or whether it is. */
        int ways(World world, Rows row, boolean many) {
            Arrays.fill(ways, 0);
            ways[0] = 1;
            for (int i = 0; i < INCHES; i++) {
                Thing t = world.thingAt(i);
                for (int j = row.size - 1; j >= 0 && t != null; j--) {
                    if (row.get(j, 0) == t.kind) {
                        ways[j + 1] = (ways[j + 1] + ways[j]) % PRIME;
                    }
                }
            }
            return many ? ways[row.size] : Math.min(ways[row.size], 1);
        }

        int longest(World world) {
            int most = 0;
            for (int i = 0; i < INCHES; i++) {
                Thing t = world.thingAt(i);
                chain[i] = t == null ? 0 : 1 + longestBelow(world, i, t.age);
                most = Math.max(most, chain[i]);
            }
            return most;
        }

        private int longestBelow(World world, int inch, int age) {
            int most = 0;
            for (int i = 0; i < inch; i++) {
                Thing t = chain[i] > most ? world.thingAt(i) : null;
                if (t != null && t.age < age) {
                    most = chain[i];
                }
            }
            return most;
        }

        int lean(World world, int inch) {
            int lean = 0;
            for (int i = inch - 1; i >= 0 && world.isTaken(i); i--) {
                lean += sizeAt(world, i);
            }
            for (int i = inch + 1; i < INCHES && world.isTaken(i); i++) {
                lean -= sizeAt(world, i);
            }
            return lean;
        }

        private static int sizeAt(World world, int inch) {
            Thing t = world.thingAt(inch);
            return t == null ? 0 : t.size;
        }

        /** 0 how far apart the sides are, 1 how many are with the first wasp. */
        int balance(World world, int what) {
            int total = weighWasps(world);
            int apart = FAR;
            int many = 0;
            for (int sum = 0; sum <= total && total > 0; sum++) {
                int far = Math.abs(total - 2 * sum);
                boolean nearer = far < apart || far == apart && fewest[sum] < many;
                if (fewest[sum] < FAR && nearer) {
                    apart = far;
                    many = fewest[sum];
                }
            }
            if (total == 0) {
                return 0;
            }
            return what == 0 ? apart : many;
        }

        /** SIZE of all wasps; fewest is how few, the first one among them, have a SIZE together. */
        private int weighWasps(World world) {
            int total = 0;
            Arrays.fill(fewest, FAR);
            for (int i = 0; i < INCHES; i++) {
                Thing t = world.thingAt(i);
                if (t == null || t.kind != WASP) {
                    continue;
                }
                for (int sum = total; sum >= 0; sum--) {
                    int more = sum + t.size;
                    if (more < fewest.length) {
                        fewest[more] = Math.min(fewest[more], fewest[sum] + 1);
                    }
                }
                if (total == 0) {
                    fewest[t.size] = 1;
                }
                total += t.size;
            }
            return total;
        }

        int fingers(int n, int hands, int least) {
            Arrays.fill(shares, 0);
            shares[0] = 1;
            for (int hand = 0; hand < hands; hand++) {
                for (int sum = Math.min(n, shares.length - 1); sum >= 0; sum--) {
                    int all = 0;
                    for (int f = least; f <= 5 && f <= sum; f++) {
                        all = (all + shares[sum - f]) % PRIME;
                    }
                    shares[sum] = all;
                }
            }
            return n < shares.length ? shares[n] : 0;
        }

        /** 0 the THING, 1 how much of it is taken so that the other one must lose. */
        int bestTake(World world, int what) {
            int together = 0;
            for (int i = 0; i < world.count; i++) {
                together ^= worth(world.things[i].size);
            }
            for (int i = 0; i < INCHES; i++) {
                Thing t = world.thingAt(i);
                int take = t == null ? NONE : takeFrom(t.size, together);
                if (take != NONE) {
                    return what == 0 ? t.number : take;
                }
            }
            return NONE;
        }

        private static int takeFrom(int size, int together) {
            int others = together ^ worth(size);
            if (others == worth(size - 1)) {
                return 1;
            }
            return size <= 3 && others == worth(0) ? size : NONE;
        }

        private static int worth(int size) {
            return size >= 0 && size < WORTHS.length ? WORTHS[size] : 0;
        }
    }

    /** Which strips were there ahead of which, and lie under which. */
    private static final class Layers {
        private final int[] on = new int[STRIPS];
        private final int[] ahead = new int[STRIPS];

        void learn(Rows strips) {
            Arrays.fill(on, 0);
            for (int i = 0; i < strips.size; i++) {
                int upper = strips.get(i, 0);
                if (upper >= 0 && upper < STRIPS) {
                    on[upper] |= 1 << strips.get(i, 1);
                }
            }
            System.arraycopy(on, 0, ahead, 0, STRIPS);
            for (int by = 0; by < STRIPS; by++) {
                for (int s = 0; s < STRIPS; s++) {
                    ahead[s] |= (ahead[s] >> by & 1) == 1 ? ahead[by] : 0;
                }
            }
        }

        int firsts() {
            int set = 0;
            for (int s = 0; s < STRIPS; s++) {
                set |= on[s] == 0 ? 1 << s : 0;
            }
            return set;
        }

        int rounds() {
            int set = 0;
            for (int s = 0; s < STRIPS; s++) {
                set |= ahead[s] & 1 << s;
            }
            return set;
        }

        int tops() {
            int covered = 0;
            for (int s = 0; s < STRIPS; s++) {
                covered |= on[s];
            }
            return (1 << STRIPS) - 1 & ~covered;
        }

        int earliest(int strip) {
            if (strip < 0 || strip >= STRIPS || (ahead[strip] & rounds()) != 0) {
                return NONE;
            }
            return Integer.bitCount(ahead[strip]);
        }

        int above(int strip) {
            int set = 0;
            for (int s = 0; s < STRIPS; s++) {
                set |= (ahead[s] >> strip & 1) == 1 ? 1 << s : 0;
            }
            return set;
        }
    }

    /** Whether one wing becomes the other one. */
    private static final class Wings {
        private final int[] here = new int[POINTS];
        private final int[] there = new int[POINTS];
        private final int[] became = new int[POINTS];

        /** Points without veins become one another in any way: they are counted, not tried. */
        int numberings(Rows veins, Rows otherVeins) {
            learn(veins, here);
            learn(otherVeins, there);
            int bare = bare(here);
            if (bare != bare(there)) {
                return 0;
            }
            int ways = tried(here, there, became, 0, 0);
            for (int i = 2; i <= bare; i++) {
                ways *= i;
            }
            return ways;
        }

        private static void learn(Rows veins, int[] joined) {
            Arrays.fill(joined, 0);
            for (int i = 0; i < veins.size; i++) {
                int a = veins.get(i, 0);
                int b = veins.get(i, 1);
                if (a >= 0 && a < POINTS && b >= 0 && b < POINTS) {
                    joined[a] |= 1 << b;
                    joined[b] |= 1 << a;
                }
            }
        }

        private static int bare(int[] joined) {
            int many = 0;
            for (int set : joined) {
                many += set == 0 ? 1 : 0;
            }
            return many;
        }

        /** In how many ways the points from this one on find theirs among those not used. */
        private static int tried(int[] here, int[] there, int[] became, int point, int used) {
            if (point >= POINTS) {
                return 1;
            }
            if (here[point] == 0) {
                return tried(here, there, became, point + 1, used);
            }
            int ways = 0;
            for (int to = 0; to < POINTS; to++) {
                if ((used >> to & 1) == 0 && fits(here, there, became, point, to)) {
                    became[point] = to;
                    ways += tried(here, there, became, point + 1, used | 1 << to);
                }
            }
            return ways;
        }

        private static boolean fits(int[] here, int[] there, int[] became, int point, int to) {
            if (Integer.bitCount(here[point]) != Integer.bitCount(there[to])) {
                return false;
            }
            for (int p = 0; p < point; p++) {
                if (here[p] != 0 && (here[point] >> p & 1) != (there[to] >> became[p] & 1)) {
                    return false;
                }
            }
            return true;
        }
    }

    private static final class Dates {
        static final int[] MONTHS = {31, 28, 31, 30, 31, 30, 31, 31, 30, 31, 30, 31};

        /** Days since a Sunday long ago, or NONE if there is no such day. */
        static int dayNumber(int date) {
            int year = date / 10000;
            int month = date / 100 % 100;
            int day = date % 100;
            if (!within(year, 1700, 2099) || !within(month, 1, 12) || !within(day, 1, monthDays(year, month))) {
                return NONE;
            }
            int before = year - 1;
            int days = 365 * before + before / 4 - before / 100 + before / 400 + day;
            for (int m = 1; m < month; m++) {
                days += monthDays(year, m);
            }
            return days;
        }

        private static int monthDays(int year, int month) {
            boolean leap = year % 4 == 0 && (year % 100 != 0 || year % 400 == 0);
            return month == 2 && leap ? 29 : month >= 1 && month <= 12 ? MONTHS[month - 1] : 0;
        }
    }
}
