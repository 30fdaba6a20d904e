import java.nio.charset.StandardCharsets;
import java.time.DateTimeException;
import java.time.LocalDate;
import java.time.temporal.ChronoUnit;
import java.util.ArrayDeque;
import java.util.ArrayList;
import java.util.Arrays;
import java.util.HashSet;
import java.util.List;
import java.util.Map;
import java.util.Set;
import java.util.TreeMap;
import java.util.TreeSet;

/** The document once more, written plainly and slowly with the Java library, to be set beside the class. */
final class Model {
    static final List<String> KINDS = List.of("fly", "date", "sleeve", "word", "wasp", "veil");

    static final class Thing implements Cloneable {
        int number, kind, size, life, at, age, limbs = 6;

        Thing copy() {
            Thing t = new Thing();
            t.number = number; t.kind = kind; t.size = size; t.life = life;
            t.at = at; t.age = age; t.limbs = limbs;
            return t;
        }
    }

    static final class World {
        int[] glue = new int[60], legs = new int[60];
        TreeMap<Integer, Thing> things = new TreeMap<>();
        List<int[]> book = new ArrayList<>();
        int state, wind, heat, came, freed, read, day;

        World() {
            Arrays.fill(glue, 50);
        }

        World copy() {
            World w = new World();
            w.glue = glue.clone(); w.legs = legs.clone();
            for (Thing t : things.values()) w.things.put(t.number, t.copy());
            w.book = new ArrayList<>(book);
            w.state = state; w.wind = wind; w.heat = heat; w.came = came;
            w.freed = freed; w.read = read; w.day = day;
            return w;
        }

        Thing at(int inch) {
            for (Thing t : things.values()) if (t.at == inch) return t;
            return null;
        }

        int near(int inch) {
            int n = 0;
            for (Thing t : things.values()) {
                int d = Math.abs(t.at - inch);
                if (d == 1 || d == 10) n++;
            }
            return n;
        }

        List<Thing> byInch() {
            List<Thing> row = new ArrayList<>(things.values());
            row.sort((a, b) -> a.at - b.at);
            return row;
        }

        void note(int what, int which, int much) {
            if (book.size() < 150) book.add(new int[] {day, what, which, much});
        }

        void add(Thing t) {
            t.number = came++;
            things.put(t.number, t);
            note(0, t.number, t.at);
        }

        boolean chance(int c, boolean dream) {
            if (dream) return c >= 500;
            state = state * 1664525 + 1013904223;
            return (int) ((state & 0xffffffffL) / 256 % 1000) < c;
        }
    }

    interface Number { int of(World w, Thing t); }
    interface Truth { boolean of(World w, Thing t); }
    record Rule(String word, Number value, Truth when) { }

    static final class Fault extends RuntimeException {
        private static final long serialVersionUID = 1L;
        final int what, place;

        Fault(int what, int place) {
            super(null, null, false, false);
            this.what = what;
            this.place = place;
        }
    }

    /** Reads from the text itself; a token is looked for anew each time that it is wanted. */
    static final class Parser {
        final String text;
        int at = 0;
        int open = 0;
        int lines = 0;

        Parser(String text) {
            this.text = text;
        }

        void skip() {
            while (at < text.length() && (text.charAt(at) == ' ' || text.charAt(at) == '\n')) at++;
        }

        static boolean letter(char c) {
            return (c | 32) >= 'a' && (c | 32) <= 'z';
        }

        String peek() {
            skip();
            if (at == text.length()) return "";
            int to = at + 1;
            char c = text.charAt(at);
            if (letter(c)) while (to < text.length() && letter(text.charAt(to))) to++;
            else if (c >= '0' && c <= '9') {
                while (to < text.length() && text.charAt(to) >= '0' && text.charAt(to) <= '9') to++;
            }
            return text.substring(at, to);
        }

        boolean is(String token) {
            if (!peek().equals(token)) return false;
            at += token.length();
            return true;
        }

        void must(String token) {
            if (!is(token)) throw new Fault(1, at);
        }

        void first(String word) {
            if (peek().equals(word) && ++lines > 16) throw new Fault(3, at);
            must(word);
        }

        boolean more() {
            return !peek().isEmpty();
        }

        int number(int least, int most) {
            String token = peek();
            if (!token.matches("[0-9]{1,4}")) throw new Fault(1, at);
            int v = Integer.parseInt(token);
            if (v < least || v > most) throw new Fault(2, at);
            at += token.length();
            return v;
        }

        List<Rule> law() {
            List<Rule> rules = new ArrayList<>();
            while (more()) {
                String word = peek();
                if (!List.of("sticks", "frees", "slides").contains(word)) throw new Fault(1, at);
                first(word);
                Number value = e();
                Truth when = is("when") ? b() : (w, t) -> true;
                must(";");
                rules.add(new Rule(word, value, when));
            }
            return rules;
        }

        Truth b() {
            Truth left = a();
            while (is("or")) {
                Truth l = left, r = a();
                left = (w, t) -> l.of(w, t) || r.of(w, t);
            }
            return left;
        }

        Truth a() {
            Truth left = c();
            while (is("and")) {
                Truth l = left, r = c();
                left = (w, t) -> l.of(w, t) && r.of(w, t);
            }
            return left;
        }

        void opened() {
            if (open == 8) throw new Fault(3, at);
            open++;
        }

        Truth c() {
            if (peek().equals("not")) {
                opened();
                must("not");
                Truth x = c();
                open--;
                return (w, t) -> !x.of(w, t);
            }
            if (peek().equals("(")) {
                opened();
                must("(");
                Truth x = b();
                must(")");
                open--;
                return x;
            }
            Number l = e();
            if (is("<")) { Number r = e(); return (w, t) -> l.of(w, t) < r.of(w, t); }
            if (is("=")) { Number r = e(); return (w, t) -> l.of(w, t) == r.of(w, t); }
            must(">");
            Number r = e();
            return (w, t) -> l.of(w, t) > r.of(w, t);
        }

        Number e() {
            Number left = t();
            while (true) {
                Number l = left;
                if (is("+")) { Number r = t(); left = (w, x) -> l.of(w, x) + r.of(w, x); }
                else if (is("-")) { Number r = t(); left = (w, x) -> l.of(w, x) - r.of(w, x); }
                else return left;
            }
        }

        Number t() {
            Number left = u();
            while (true) {
                Number l = left;
                if (is("*")) { Number r = u(); left = (w, x) -> l.of(w, x) * r.of(w, x); }
                else if (is("/")) { int r = number(1, 9999); left = (w, x) -> l.of(w, x) / r; }
                else return left;
            }
        }

        Number u() {
            if (is("kind")) return (w, t) -> t.kind;
            if (is("size")) return (w, t) -> t.size;
            if (is("life")) return (w, t) -> t.life;
            if (is("inch")) return (w, t) -> t.at;
            if (is("glue")) return (w, t) -> w.glue[t.at];
            if (is("age")) return (w, t) -> t.age;
            if (is("limbs")) return (w, t) -> t.limbs;
            if (is("wind")) return (w, t) -> w.wind;
            if (is("heat")) return (w, t) -> w.heat;
            if (is("near")) return (w, t) -> w.near(t.at);
            if (is("day")) return (w, t) -> w.day;
            int v = number(0, 9999);
            return (w, t) -> v;
        }

        List<int[]> flight() {
            List<int[]> rows = new ArrayList<>();
            while (more()) {
                first("on");
                int day = number(0, 999);
                int kind = KINDS.indexOf(peek());
                if (kind < 0) throw new Fault(1, at);
                must(KINDS.get(kind));
                int size = number(1, 9), life = number(0, 9);
                must("at");
                rows.add(new int[] {day, kind, size, life, number(0, 59)});
                must(";");
            }
            return rows;
        }

        List<int[]> sky() {
            List<int[]> rows = new ArrayList<>();
            while (more()) {
                first("on");
                int day = number(0, 999);
                if (is("wind")) rows.add(new int[] {day, 0, number(0, 9)});
                else if (is("heat")) rows.add(new int[] {day, 1, number(0, 9)});
                else if (is("boil")) rows.add(new int[] {day, 2, number(0, 59), number(0, 99)});
                else { must("dry"); rows.add(new int[] {day, 3, number(1, 99)}); }
                must(";");
            }
            return rows;
        }

        List<int[]> strips() {
            List<int[]> rows = new ArrayList<>();
            while (more()) {
                first("strip");
                int a = number(0, 11);
                must("on");
                must("strip");
                skip();
                int place = at, b = number(0, 11);
                if (a == b) throw new Fault(2, place);
                rows.add(new int[] {a, b});
                must(";");
            }
            return rows;
        }
    }

    static final class Told {
        List<Rule> law = new ArrayList<>();
        List<int[]> flight = new ArrayList<>(), sky = new ArrayList<>(), strips = new ArrayList<>();
        List<Integer> row = new ArrayList<>(), looks = new ArrayList<>();
        List<int[]> words = new ArrayList<>();
        List<List<int[]>> veins = new ArrayList<>(List.of(new ArrayList<>(), new ArrayList<>()));

        Told copy() {
            Told t = new Told();
            t.law = new ArrayList<>(law); t.flight = new ArrayList<>(flight);
            t.sky = new ArrayList<>(sky); t.strips = new ArrayList<>(strips);
            t.row = new ArrayList<>(row); t.looks = new ArrayList<>(looks);
            t.words = new ArrayList<>(words);
            t.veins = new ArrayList<>(List.of(new ArrayList<>(veins.get(0)), new ArrayList<>(veins.get(1))));
            return t;
        }
    }

    World world = new World();
    Told told = new Told();
    World imageWorld = null;
    Told imageTold = null;
    ArrayDeque<World> past = new ArrayDeque<>();
    byte[] tape = new byte[0];
    int fault = 0, place = -1;

    static boolean in(int v, int least, int most) {
        return v >= least && v <= most;
    }

    void remember() {
        past.addLast(world.copy());
        if (past.size() > 6) past.removeFirst();
    }

    int state(int v) {
        int was = world.state;
        world.state = v;
        past.clear();
        return was;
    }

    boolean set(int what, int who, int v) {
        Thing t = world.things.get(who);
        boolean can = switch (what) {
            case 0 -> in(who, 0, 59) && in(v, 0, 99);
            case 1 -> t != null && in(v, 1, 9);
            case 2 -> t != null && in(v, 0, 9);
            case 3 -> t != null && in(v, 0, 6);
            case 4, 5 -> in(v, 0, 9);
            default -> false;
        };
        if (!can) return false;
        past.clear();
        if (what == 0) world.glue[who] = v;
        if (what == 1) t.size = v;
        if (what == 2) t.life = v;
        if (what == 3) t.limbs = v;
        if (what == 4) world.wind = v;
        if (what == 5) world.heat = v;
        return true;
    }

    int put(int kind, int size, int life, int inch) {
        if (!in(kind, 0, 5) || !in(size, 1, 9) || !in(life, 0, 9) || !in(inch, 0, 59)) return -1;
        if (world.at(inch) != null || world.things.size() >= 20) return -1;
        remember();
        Thing t = new Thing();
        t.kind = kind; t.size = size; t.life = life; t.at = inch;
        world.add(t);
        return t.number;
    }

    boolean act(int what, int who, int v) {
        if (what == 0 && world.things.containsKey(who)) {
            remember();
            Thing t = world.things.remove(who);
            world.read++;
            world.note(5, who, t.at);
            return true;
        }
        if (what == 1 && in(who, 0, 59) && in(v, 0, 99)) {
            remember();
            world.glue[who] = v;
            return true;
        }
        return false;
    }

    int law(World w, Thing t, String word) {
        int v = switch (word) {
            case "sticks" -> w.glue[t.at] * 10 - w.wind * 50;
            case "frees" -> t.life * 20 + w.wind * 10 - w.glue[t.at] * 2;
            default -> w.heat / 4;
        };
        for (Rule r : told.law) {
            if (r.word().equals(word) && r.when().of(w, t)) {
                v = r.value().of(w, t);
                break;
            }
        }
        int most = word.equals("slides") ? 9 : 1000;
        return v < 0 ? 0 : v > most ? most : v;
    }

    void day(World w, boolean dream) {
        for (int[] s : told.sky) {
            if (s[0] != w.day) continue;
            if (s[1] == 0) w.wind = s[2];
            if (s[1] == 1) w.heat = s[2];
            if (s[1] == 2) w.glue[s[2]] = s[3];
            if (s[1] == 3) for (int i = 0; i < 60; i++) w.glue[i] = w.glue[i] > s[2] ? w.glue[i] - s[2] : 0;
        }
        for (int[] f : told.flight) {
            if (f[0] != w.day || w.at(f[4]) != null || w.things.size() == 20) continue;
            Thing t = new Thing();
            t.kind = f[1]; t.size = f[2]; t.life = f[3]; t.at = f[4];
            if (w.chance(law(w, t, "sticks"), dream)) {
                w.add(t);
                w.glue[t.at] = w.glue[t.at] > t.size ? w.glue[t.at] - t.size : 0;
            } else {
                w.note(1, -1, t.at);
            }
        }
        for (Thing t : new ArrayList<>(w.things.values())) {
            int frees = law(w, t, "frees");
            if (frees == 0 || !w.chance(frees, dream)) continue;
            if (t.limbs > 1) {
                t.limbs--;
                w.legs[t.at]++;
                if (t.life > 0) t.life--;
                w.note(2, t.number, t.at);
            } else {
                w.freed++;
                w.note(3, t.number, t.at);
                w.things.remove(t.number);
            }
        }
        List<Thing> row = w.byInch();
        for (int i = row.size() - 1; i >= 0; i--) {
            Thing t = row.get(i);
            int steps = law(w, t, "slides");
            while (steps-- > 0) {
                if (t.at == 59) {
                    w.freed++;
                    w.note(4, t.number, 59);
                    w.things.remove(t.number);
                    break;
                }
                if (w.at(t.at + 1) == null) t.at++;
            }
        }
        for (Thing t : w.things.values()) if (t.age < 999) t.age++;
        for (int i = 0; i < 60; i++) if (w.heat > 4 && w.at(i) == null && w.glue[i] > 0) w.glue[i]--;
        w.day++;
    }

    int days(int n) {
        if (!in(n, 1, 60) || world.day + n > 9999) return -1;
        int before = world.freed;
        for (int i = 0; i < n; i++) {
            remember();
            day(world, false);
        }
        return world.freed - before;
    }

    int feed(int a, int b, int c, int d, int e) {
        if (tape.length > 380) return -1;
        int n = tape.length;
        tape = Arrays.copyOf(tape, n + 20);
        java.nio.ByteBuffer.wrap(tape, n, 20).putInt(a).putInt(b).putInt(c).putInt(d).putInt(e);
        return tape.length;
    }

    boolean end(int n) {
        if (n < 0 || n > tape.length) return false;
        tape = Arrays.copyOf(tape, n);
        return true;
    }

    int text(int k) {
        Parser p = new Parser(new String(tape, StandardCharsets.ISO_8859_1));
        tape = new byte[0];
        fault = 0;
        place = -1;
        try {
            switch (k) {
                case 0: told.law = p.law(); return told.law.size();
                case 1: told.flight = p.flight(); past.clear(); return told.flight.size();
                case 2: told.sky = p.sky(); past.clear(); return told.sky.size();
                case 3: told.strips = p.strips(); return told.strips.size();
                default: return -1;
            }
        } catch (Fault f) {
            fault = f.what;
            place = f.place;
            return -1;
        }
    }

    int fault(int what) {
        return what == 0 ? fault : what == 1 ? place : -1;
    }

    int inch(int inch, int what) {
        if (!in(inch, 0, 59) || !in(what, 0, 2)) return -2;
        Thing t = world.at(inch);
        return what == 0 ? world.glue[inch] : what == 1 ? world.legs[inch] : t == null ? -1 : t.number;
    }

    int of(int thing, int what) {
        Thing t = world.things.get(thing);
        if (t == null || !in(what, 0, 9)) return -1;
        int[] all = {t.kind, t.size, t.life, t.at, t.age, t.limbs,
            law(world, t, "sticks"), law(world, t, "frees"), law(world, t, "slides"), world.near(t.at)};
        return all[what];
    }

    int book(int i, int what) {
        return in(i, 0, world.book.size() - 1) && in(what, 0, 3) ? world.book.get(i)[what] : -2;
    }

    int goes(int n, int what) {
        if (!in(n, 1, 60) || !in(what, 0, 3)) return -1;
        World w = world.copy();
        for (int i = 0; i < n; i++) day(w, true);
        return new int[] {w.things.size(), w.freed, Arrays.stream(w.legs).sum(), Arrays.stream(w.glue).sum()}[what];
    }

    int nearest(int kind) {
        for (Thing t : world.byInch()) if (t.kind == kind) return t.number;
        return -1;
    }

    int heaps(int what) {
        Set<Integer> left = new TreeSet<>();
        for (Thing t : world.things.values()) left.add(t.at);
        int parts = 0, greatest = 0, least = -1;
        while (!left.isEmpty()) {
            int start = left.iterator().next();
            Set<Integer> part = new HashSet<>();
            flood(start, left, part);
            parts++;
            if (part.size() > greatest) {
                greatest = part.size();
                least = start;
            }
        }
        return what == 0 ? parts : what == 1 ? greatest : what == 2 ? least : -1;
    }

    private static void flood(int inch, Set<Integer> left, Set<Integer> part) {
        if (!left.remove(inch)) return;
        part.add(inch);
        for (int d : new int[] {-10, -1, 1, 10}) flood(inch + d, left, part);
    }

    static <T> int more(List<T> list, T one, boolean none, boolean can, int most) {
        if (none) {
            list.clear();
            return 0;
        }
        if (!can || list.size() >= most) return -1;
        list.add(one);
        return list.size();
    }

    int kind(int v) {
        return more(told.row, v, v == -1, in(v, 0, 5), 8);
    }

    int says(int what) {
        List<Thing> row = world.byInch();
        if (what == 2) {
            int most = 0;
            int[] best = new int[row.size()];
            for (int i = row.size() - 1; i >= 0; i--) {
                best[i] = 1;
                for (int j = i + 1; j < row.size(); j++) {
                    if (row.get(j).age > row.get(i).age) best[i] = Math.max(best[i], best[j] + 1);
                }
                most = Math.max(most, best[i]);
            }
            return most;
        }
        int ways = ways(row, 0, 0);
        return what == 0 ? (ways > 0 ? 1 : 0) : what == 1 ? ways : -1;
    }

    private int ways(List<Thing> row, int from, int k) {
        if (k == told.row.size()) return 1;
        int n = 0;
        for (int i = from; i < row.size(); i++) if (row.get(i).kind == told.row.get(k)) n += ways(row, i + 1, k + 1);
        return n;
    }

    int pass(int w, int what) {
        if (!in(w, 1, 59) || !in(what, 0, 1)) return -1;
        int first = -1, many = 0;
        for (int i = 59; i >= 0; i--) {
            boolean open = i + w <= 60;
            for (int j = i; j < i + w; j++) open &= world.at(j) == null;
            if (open) {
                first = i;
                many++;
            }
        }
        return what == 0 ? first : many;
    }

    int words(int legs, int worth) {
        return more(told.words, new int[] {legs, worth}, legs == -1, in(legs, 1, 30) && in(worth, 0, 99), 6);
    }

    int legs(int what) {
        int most = 0, set = 0;
        for (int s = 0; s < 1 << told.words.size(); s++) {
            int worth = 0, left = look(6);
            for (int i = 0; i < told.words.size(); i++) {
                if ((s & 1 << i) != 0) {
                    left -= told.words.get(i)[0];
                    worth += told.words.get(i)[1];
                }
            }
            if (left >= 0 && worth > most) {
                most = worth;
                set = s;
            }
        }
        return what == 0 ? most : what == 1 ? set : -1;
    }

    /** All that is reached from a strip by one step or more. */
    private Set<Integer> reach(int strip, boolean up) {
        Set<Integer> got = new TreeSet<>();
        ArrayDeque<Integer> todo = new ArrayDeque<>(List.of(strip));
        while (!todo.isEmpty()) {
            int s = todo.pop();
            for (int[] l : told.strips) {
                int from = up ? l[1] : l[0], to = up ? l[0] : l[1];
                if (from == s && got.add(to)) todo.push(to);
            }
        }
        return got;
    }

    int order(int what) {
        int first = 0, rounds = 0, tops = 0;
        for (int s = 0; s < 12; s++) {
            if (reach(s, false).isEmpty()) first |= 1 << s;
            if (reach(s, false).contains(s)) rounds |= 1 << s;
            if (reach(s, true).isEmpty()) tops |= 1 << s;
        }
        if (in(what, 0, 2)) return new int[] {first, rounds, tops}[what];
        if (in(what, 10, 21)) {
            for (int s : reach(what - 10, false)) if ((rounds & 1 << s) != 0) return -1;
            return reach(what - 10, false).size();
        }
        if (in(what, 30, 41)) {
            int set = 0;
            for (int s : reach(what - 30, true)) set |= 1 << s;
            return set;
        }
        return -1;
    }

    int sight(int strips) {
        return more(told.looks, strips, strips == -1, in(strips, 0, 4095), 8);
    }

    int cover(int what) {
        int all = 0;
        for (int l : told.looks) all |= l;
        for (int many = 0; many <= 8; many++) {
            for (int s = 0; s < 256; s++) {
                int seen = 0;
                for (int i = 0; i < told.looks.size(); i++) if ((s & 1 << i) != 0) seen |= told.looks.get(i);
                if (Integer.bitCount(s) == many && seen == all) return what == 0 ? many : what == 1 ? s : -1;
            }
        }
        return -1;
    }

    int vein(int wing, int from, int to) {
        if (!in(wing, 0, 1)) return -1;
        return more(told.veins.get(wing), new int[] {from, to}, from == -1,
            in(from, 0, 7) && in(to, 0, 7) && from != to, 9);
    }

    private static boolean[][] joined(List<int[]> veins) {
        boolean[][] j = new boolean[8][8];
        for (int[] v : veins) j[v[0]][v[1]] = j[v[1]][v[0]] = true;
        return j;
    }

    int wings(int what) {
        int ways = numberings(joined(told.veins.get(0)), joined(told.veins.get(1)), new int[8], 0, new boolean[8]);
        return what == 0 ? Math.min(ways, 1) : what == 1 ? ways : -1;
    }

    private static int numberings(boolean[][] a, boolean[][] b, int[] to, int n, boolean[] used) {
        if (n == 8) {
            for (int i = 0; i < 8; i++) for (int j = 0; j < 8; j++) if (a[i][j] != b[to[i]][to[j]]) return 0;
            return 1;
        }
        int ways = 0;
        for (int v = 0; v < 8; v++) {
            if (used[v]) continue;
            used[v] = true;
            to[n] = v;
            ways += numberings(a, b, to, n + 1, used);
            used[v] = false;
        }
        return ways;
    }

    private static LocalDate date(int v) {
        try {
            LocalDate d = LocalDate.of(v / 10000, v / 100 % 100, v % 100);
            return in(d.getYear(), 1700, 2099) ? d : null;
        } catch (DateTimeException e) {
            return null;
        }
    }

    int weekday(int v) {
        LocalDate d = date(v);
        return d == null ? -1 : d.getDayOfWeek().getValue() % 7;
    }

    int between(int from, int to) {
        LocalDate a = date(from), b = date(to);
        return a == null || b == null ? -1000000 : (int) ChronoUnit.DAYS.between(a, b);
    }

    int leans(int thing) {
        Thing t = world.things.get(thing);
        if (t == null) return -1000;
        int lean = 0;
        for (int i = t.at - 1; world.at(i) != null; i--) lean += world.at(i).size;
        for (int i = t.at + 1; world.at(i) != null; i++) lean -= world.at(i).size;
        return lean;
    }

    int go(int v) {
        if (v == -1) {
            for (int w = 0; w < 10; w++) if (go(w) > 0) return w;
            return -1;
        }
        if (!in(v, 0, 9)) return -1;
        World w = world.copy();
        w.wind = v;
        int n = 0;
        for (Thing t : w.things.values()) if (t.limbs < 2 && law(w, t, "frees") >= 500) n++;
        return n;
    }

    int squires(int what) {
        List<Thing> wasps = world.byInch();
        wasps.removeIf(t -> t.kind != 4);
        if (wasps.isEmpty()) return in(what, 0, 1) ? 0 : -1;
        int best = Integer.MAX_VALUE, many = 0, n = wasps.size();
        for (int s = 1; s < 1 << n; s += 2) {
            int apart = 0;
            for (int i = 0; i < n; i++) apart += (s & 1 << i) != 0 ? wasps.get(i).size : -wasps.get(i).size;
            apart = Math.abs(apart);
            int count = Integer.bitCount(s);
            if (apart < best || apart == best && count < many) {
                best = apart;
                many = count;
            }
        }
        return what == 0 ? best : what == 1 ? many : -1;
    }

    int held(int n, int k, int what) {
        return in(n, 1, 30) && in(k, 1, 9) && in(what, 0, 1) ? share(n, k, what) : -1;
    }

    private static int share(int n, int k, int least) {
        if (k == 0) return n == 0 ? 1 : 0;
        int ways = 0;
        for (int f = least; f <= Math.min(5, n); f++) ways += share(n - f, k - 1, least);
        return ways;
    }

    /** Whether who begins wins, found by playing all games of the SIZES. */
    private static boolean wins(int[] sizes, Map<String, Boolean> known) {
        int[] sorted = sizes.clone();
        Arrays.sort(sorted);
        String key = Arrays.toString(sorted);
        Boolean old = known.get(key);
        if (old != null) return old;
        boolean won = false;
        for (int i = 0; i < sorted.length && !won; i++) {
            for (int take = 1; take <= sorted[i] && !won; take++) {
                if (take > 1 && (take < sorted[i] || sorted[i] > 3)) continue;
                int[] next = sorted.clone();
                next[i] -= take;
                won = !wins(next, known);
            }
        }
        known.put(key, won);
        return won;
    }

    int game(int what) {
        List<Thing> row = world.byInch();
        Map<String, Boolean> known = new TreeMap<>();
        for (int i = 0; i < row.size(); i++) {
            int size = row.get(i).size;
            for (int take = 1; take <= size; take++) {
                if (take > 1 && (take < size || size > 3)) continue;
                int[] sizes = row.stream().mapToInt(t -> t.size).toArray();
                sizes[i] -= take;
                if (!wins(sizes, known)) return what == 0 ? row.get(i).number : what == 1 ? take : -1;
            }
        }
        return -1;
    }

    boolean undo() {
        if (past.isEmpty()) return false;
        world = past.removeLast();
        return true;
    }

    boolean image(boolean taken) {
        if (taken) {
            imageWorld = world.copy();
            imageTold = told.copy();
            return true;
        }
        if (imageWorld == null) return false;
        world = imageWorld.copy();
        told = imageTold.copy();
        past.clear();
        return true;
    }

    int look(int what) {
        int[] all = {world.things.size(), world.came, world.freed, world.read, world.wind, world.heat,
            Arrays.stream(world.legs).sum(), world.day, world.book.size(), world.state,
            told.law.size(), told.flight.size(), told.sky.size(), told.strips.size(), past.size()};
        return in(what, 0, 14) ? all[what] : -1;
    }
}
