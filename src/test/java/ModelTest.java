import java.util.ArrayList;
import java.util.Collections;
import java.util.List;
import java.util.Random;

/** Random runs of calls, each asked of the class and of the model. The seeds are fixed. */
public final class ModelTest {
    private static final String[] WORDS = {"sticks", "frees", "slides", "when", "or", "and", "not", "kind", "size",
        "life", "inch", "glue", "age", "limbs", "wind", "heat", "near", "day", "on", "at", "fly", "date", "sleeve",
        "word", "wasp", "veil", "boil", "dry", "strip", "strips", "Fly", "x", "12345", "0", "1", "9", "10", "99",
        "0009", "60", "59", ";", ";", "+", "-", "*", "/", "(", ")", "<", "=", ">", "!", "\t", "\u00e9"};
    private static final String[] NUMBERS = {"kind", "size", "life", "inch", "glue", "age", "limbs", "wind", "heat",
        "near", "day"};

    private final Random random;
    private final Check check;
    private final int run;
    private final Counted x = new Counted();
    private final Model m = new Model();

    private ModelTest(Check check, int run) {
        this.check = check;
        this.run = run;
        this.random = new Random(7919L * run + 1);
    }

    public static void main(String[] args) {
        Check check = new Check("ModelTest");
        for (int run = 0; run < 2400; run++) {
            new ModelTest(check, run).play();
        }
        check.finish();
    }

    private int up(int n) {
        return random.nextInt(n);
    }

    /** Mostly from least to most, at times just outside or far away. */
    private int about(int least, int most) {
        int p = up(40);
        if (p == 0) return least - 1;
        if (p == 1) return most + 1;
        if (p == 2) return random.nextInt();
        if (p == 3) return new int[] {Integer.MIN_VALUE, Integer.MAX_VALUE, -1, 0}[up(4)];
        return least + up(most - least + 1);
    }

    private int someThing() {
        if (m.world.things.isEmpty() || up(12) == 0) return about(0, m.world.came + 1);
        Integer[] numbers = m.world.things.keySet().toArray(new Integer[0]);
        return numbers[up(numbers.length)];
    }

    private void due(String call, int got, int want) {
        check.due("run " + run + ": " + call, got, want);
    }

    private void due(String call, boolean got, boolean want) {
        check.due("run " + run + ": " + call, got, want);
    }

    /** Calls by chance, and what is left of the 512 calls for all that can be seen, in an order by chance. */
    private void play() {
        int spared = run % 3 == 0 ? 40 : 250;
        while (x.left() > spared) {
            switch (up(4)) {
                case 0 -> change();
                case 1 -> tellText();
                case 2 -> ask();
                default -> askMore();
            }
        }
        compareAll();
    }

    private void change() {
        switch (up(13)) {
            case 0 -> { int v = random.nextInt(); if (up(3) == 0) due("state", x.state(v), m.state(v)); }
            case 1 -> {
                int what = about(0, 5), v = about(0, 9);
                int who = what == 0 ? about(0, 59) : someThing();
                due("set(" + what + ", " + who + ", " + v + ")", x.set(what, who, v), m.set(what, who, v));
            }
            case 2, 3, 4, 5 -> {
                int kind = up(3) == 0 ? 4 : about(0, 5), size = about(1, 9), life = about(0, 9), inch = about(0, 59);
                if (run % 3 == 0) inch = about(20, 42);
                due("put", x.put(kind, size, life, inch), m.put(kind, size, life, inch));
            }
            case 6 -> { int who = someThing(); due("act(0)", x.act(0, who, 0), m.act(0, who, 0)); }
            case 7 -> {
                int what = about(0, 2), who = about(0, 59), v = about(0, 99);
                due("act", x.act(what, who, v), m.act(what, who, v));
            }
            case 8, 9 -> { int n = up(10) == 0 ? about(1, 60) : about(1, 3); due("days", x.days(n), m.days(n)); }
            case 10, 11 -> due("undo", x.undo(), m.undo());
            default -> { boolean taken = up(2) == 0; due("image", x.image(taken), m.image(taken)); }
        }
    }

    private void tellText() {
        if (up(3) > 0) {
            return;
        }
        int k = up(4);
        String text = switch (k) {
            case 0 -> law();
            case 1 -> flight();
            case 2 -> sky();
            default -> strips();
        };
        if (up(4) == 0) text = spoiled(text);
        if (up(30) == 0) k = about(0, 3);
        if (text.length() > 400) text = text.substring(0, 400);
        for (int at = 0; at < text.length(); at += 20) {
            int[] v = Check.numbers(text, at);
            due("feed", x.feed(v[0], v[1], v[2], v[3], v[4]), m.feed(v[0], v[1], v[2], v[3], v[4]));
        }
        int n = up(20) == 0 ? about(0, 400) : text.length();
        due("end(" + n + ")", x.end(n), m.end(n));
        if (up(40) == 0) return;
        due("text(" + k + ") of " + text, x.text(k), m.text(k));
        due("fault(0) of " + text, x.fault(0), m.fault(0));
        due("fault(1) of " + text, x.fault(1), m.fault(1));
        due("fault(2)", x.fault(2), m.fault(2));
    }

    private String spoiled(String text) {
        StringBuilder b = new StringBuilder(text);
        for (int n = up(3); n >= 0; n--) {
            int at = up(b.length() + 1);
            switch (up(3)) {
                case 0 -> b.insert(at, " " + WORDS[up(WORDS.length)] + " ");
                case 1 -> b.insert(at, WORDS[up(WORDS.length)]);
                default -> b.delete(at, Math.min(b.length(), at + 1 + up(6)));
            }
        }
        return b.toString();
    }

    private String blank() {
        return up(6) == 0 ? "\n " : " ";
    }

    private String law() {
        StringBuilder b = new StringBuilder();
        for (int n = up(up(6) == 0 ? 19 : 6); n > 0; n--) {
            b.append(WORDS[up(3)]).append(blank());
            if (up(3) == 0) b.append(up(12) * 100); else b.append(sum());
            if (up(2) == 0) b.append(blank()).append("when ").append(either(0));
            b.append(";");
        }
        return b.toString();
    }

    private String sum() {
        StringBuilder b = new StringBuilder(product());
        for (int n = up(3); n > 0; n--) b.append(up(2) == 0 ? "+" : " - ").append(product());
        return b.toString();
    }

    private String product() {
        StringBuilder b = new StringBuilder(unit());
        for (int n = up(3); n > 0; n--) {
            if (up(3) == 0) b.append("/").append(up(30) == 0 ? 0 : 1 + up(12)); else b.append("*").append(unit());
        }
        return b.toString();
    }

    private String unit() {
        return up(3) == 0 ? String.valueOf(up(up(5) == 0 ? 10000 : 100)) : NUMBERS[up(NUMBERS.length)];
    }

    private String either(int depth) {
        StringBuilder b = new StringBuilder(both(depth));
        for (int n = up(3); n > 0 && depth < 3; n--) b.append(" or ").append(both(depth));
        return b.toString();
    }

    private String both(int depth) {
        StringBuilder b = new StringBuilder(one(depth));
        for (int n = up(3); n > 0 && depth < 3; n--) b.append(" and ").append(one(depth));
        return b.toString();
    }

    private String one(int depth) {
        if (depth < 10 && up(depth == 0 ? 2 : 3) == 0) return "not " + one(depth + 1);
        if (depth < 10 && up(depth == 0 ? 2 : 3) == 0) return "(" + either(depth + 1) + ")";
        return sum() + "<=>".charAt(up(3)) + sum();
    }

    private int nearDay(int day) {
        return up(40) == 0 ? about(0, 999) : Math.max(0, Math.min(999, day + up(4)));
    }

    private String flight() {
        StringBuilder b = new StringBuilder();
        for (int n = up(up(4) == 0 ? 19 : 9); n > 0; n--) {
            b.append("on ").append(nearDay(m.world.day)).append(blank()).append(Model.KINDS.get(up(6)));
            b.append(" ").append(edge(1, 9)).append(" ").append(edge(0, 9)).append(" at ").append(edge(0, 59)).append(";");
        }
        return b.toString();
    }

    private int edge(int least, int most) {
        int p = up(100);
        return p == 0 ? most + 1 : p == 1 ? Math.max(0, least - 1) : least + up(most - least + 1);
    }

    private String sky() {
        StringBuilder b = new StringBuilder();
        for (int n = up(up(4) == 0 ? 19 : 9); n > 0; n--) {
            b.append("on ").append(nearDay(m.world.day)).append(blank());
            switch (up(4)) {
                case 0 -> b.append("wind ").append(edge(0, 9));
                case 1 -> b.append("heat ").append(edge(0, 9));
                case 2 -> b.append("boil ").append(edge(0, 59)).append(" ").append(edge(0, 99));
                default -> b.append("dry ").append(edge(1, up(3) == 0 ? 99 : 9));
            }
            b.append(";");
        }
        return b.toString();
    }

    private String strips() {
        StringBuilder b = new StringBuilder();
        for (int n = up(up(3) == 0 ? 18 : 9); n > 0; n--) {
            int a = up(12), c = up(60) == 0 ? a : up(12);
            if (up(2) == 0 && a > c) { int s = a; a = c; c = s; }
            if (a == c && up(60) > 0) c = (a + 1) % 12;
            b.append("strip ").append(a).append(" on strip ").append(c).append(";");
        }
        return b.toString();
    }

    private void ask() {
        int a = about(0, 59), b = about(0, 3), t = someThing(), n = about(1, 60);
        switch (up(12)) {
            case 0 -> due("inch", x.inch(a, b), m.inch(a, b));
            case 1 -> { int w = about(0, 9); due("of(" + t + ", " + w + ")", x.of(t, w), m.of(t, w)); }
            case 2 -> { int i = about(0, m.world.book.size()); due("book", x.book(i, b), m.book(i, b)); }
            case 3 -> due("goes(" + n + ", " + b + ")", x.goes(n, b), m.goes(n, b));
            case 4 -> { int k = about(0, 5); due("nearest", x.nearest(k), m.nearest(k)); }
            case 5 -> due("heaps(" + b + ")", x.heaps(b), m.heaps(b));
            case 6 -> due("says(" + b + ")", x.says(b), m.says(b));
            case 7 -> { int w = about(1, 20); due("pass", x.pass(w, b), m.pass(w, b)); }
            case 8 -> due("legs", x.legs(b), m.legs(b));
            case 9 -> { int w = about(0, 42); due("order(" + w + ")", x.order(w), m.order(w)); }
            case 10 -> due("cover", x.cover(b), m.cover(b));
            default -> { int w = about(0, 14); due("look(" + w + ")", x.look(w), m.look(w)); }
        }
    }

    private void askMore() {
        int what = about(0, 1), t = someThing();
        switch (up(14)) {
            case 0 -> { int v = up(9) == 0 ? -1 : about(0, 5); due("kind", x.kind(v), m.kind(v)); }
            case 1 -> {
                int l = up(12) == 0 ? -1 : about(1, 30), w = about(0, 99);
                due("words", x.words(l, w), m.words(l, w));
            }
            case 2 -> { int s = up(12) == 0 ? -1 : about(0, 4095); due("sight", x.sight(s), m.sight(s)); }
            case 3, 4 -> {
                int w = about(0, 1), from = up(25) == 0 ? -1 : about(0, 7), to = about(0, 7);
                due("vein", x.vein(w, from, to), m.vein(w, from, to));
            }
            case 5 -> { if (up(4) == 0) due("wings", x.wings(what), m.wings(what)); }
            case 6 -> { int d = date(); due("weekday " + d, x.weekday(d), m.weekday(d)); }
            case 7 -> { int d = date(), e = date(); due("between", x.between(d, e), m.between(d, e)); }
            case 8 -> due("leans", x.leans(t), m.leans(t));
            case 9 -> { int v = up(2) == 0 ? -1 : about(0, 9); due("go(" + v + ")", x.go(v), m.go(v)); }
            case 10 -> due("squires", x.squires(what), m.squires(what));
            case 11 -> { int n = about(1, 30), k = about(1, 9); if (k < 7) due("held", x.held(n, k, what), m.held(n, k, what)); }
            case 12 -> { if (m.world.things.size() < 7) due("game", x.game(what), m.game(what)); }
            default -> { if (up(5) == 0) likeWings(); }
        }
    }

    /** Wing 1 is told as wing 0 with other numbers, so that ways are found. */
    private void likeWings() {
        int turn = 1 + up(7);
        due("vein none", x.vein(1, -1, 0), m.vein(1, -1, 0));
        for (int[] v : m.told.veins.get(0)) {
            int from = (v[1] + turn) % 8, to = (v[0] + turn) % 8;
            due("vein", x.vein(1, from, to), m.vein(1, from, to));
        }
        due("wings(1)", x.wings(1), m.wings(1));
    }

    private int date() {
        if (up(20) == 0) return random.nextInt();
        return about(1700, 2099) * 10000 + about(1, 12) * 100 + about(1, 31);
    }

    private void compareAll() {
        List<int[]> questions = new ArrayList<>();
        for (int w = 0; w < 15; w++) questions.add(new int[] {0, w, 0});
        for (int i = 0; i < 60; i++) for (int w = 0; w < 3; w++) questions.add(new int[] {1, i, w});
        for (int t : m.world.things.keySet()) for (int w = 0; w < 10; w++) questions.add(new int[] {2, t, w});
        for (int i = 0; i < m.world.book.size(); i++) for (int w = 0; w < 4; w++) questions.add(new int[] {3, i, w});
        Collections.shuffle(questions, random);
        for (int[] q : questions) {
            if (x.left() > 0) compare(q[0], q[1], q[2]);
        }
    }

    private void compare(int call, int a, int w) {
        switch (call) {
            case 0 -> due("look(" + a + ")", x.look(a), m.look(a));
            case 1 -> due("inch(" + a + ", " + w + ")", x.inch(a, w), m.inch(a, w));
            case 2 -> due("of(" + a + ", " + w + ")", x.of(a, w), m.of(a, w));
            default -> due("book(" + a + ", " + w + ")", x.book(a, w), m.book(a, w));
        }
    }
}
