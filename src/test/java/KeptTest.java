import java.util.ArrayList;
import java.util.LinkedHashMap;
import java.util.List;
import java.util.Map;
import java.util.function.Consumer;

/**
 * UNDO, THE IMAGE, and that what is refused or asked changes nothing. Two objects are told the same calls, one of them
 * some calls more; then all that can be seen of both is set side by side.
 */
public final class KeptTest {
    private static final Check CHECK = new Check("KeptTest");
    private static final String STRIP_TEXT = "strip 9 on strip 8;";

    private KeptTest() {
    }

    private static void due(String call, long got, long want) {
        CHECK.due(call, got, want);
    }

    private static void due(String call, boolean got, boolean want) {
        CHECK.due(call, got, want);
    }

    public static void main(String[] args) {
        refusedChangesNothing();
        askedChangesNothing();
        fullTapeTakesNothing();
        undoGoesBack();
        undoOfEachDay();
        sixAreKept();
        undoneOnceAlone();
        undoLeavesWhatIsToldForThought();
        whatForgets();
        whatDoesNotForget();
        noImage();
        imageHasAll();
        imageMoreThanOnce();
        imageTakenAnew();
        imageHasNoTapeAndNoFault();
        imageAndUndo();
        fiveHundredAndTwelveCalls();
        CHECK.finish();
    }

    /** Something of all that can be told, with full rows, five to undo, an image, a FAULT and 19 bytes of TAPE. */
    private static Counted prepared() {
        Counted x = new Counted();
        Check.tell(x, 0, "sticks 600 when wind<5;frees 580 when kind=4;frees 300;slides near;");
        Check.tell(x, 1, "on 0 wasp 2 5 at 20;on 2 fly 2 5 at 40;on 5 date 2 5 at 3;");
        Check.tell(x, 2, "on 1 wind 2;on 6 boil 3 3;");
        Check.tell(x, 3, "strip 1 on strip 0;strip 3 on strip 1;");
        x.put(4, 7, 9, 21);
        x.put(2, 3, 9, 22);
        x.put(4, 2, 9, 50);
        x.put(1, 5, 9, 8);
        x.state(77);
        x.days(2);
        x.image(true);
        x.set(0, 21, 33);
        x.set(3, 1, 1);
        x.set(5, 0, 6);
        for (int i = 0; i < 8; i++) x.kind(i % 2 == 0 ? 4 : 2);
        for (int i = 1; i <= 6; i++) x.words(i, 7 - i);
        for (int i = 0; i < 8; i++) x.sight(3 << i);
        for (int i = 0; i < 9; i++) x.vein(0, i % 8, (i + 1) % 8);
        for (int i = 0; i < 8; i++) x.vein(1, i % 8, (i + 3) % 8);
        x.put(0, 1, 1, 59);
        x.act(0, 0, 0);
        x.act(1, 7, 70);
        x.days(2);
        Check.tell(x, 2, "on 0 dry 0;");
        Check.feed(x, STRIP_TEXT);
        return x;
    }

    /** All that can be seen but the FAULT, the TAPE and what can be undone. */
    private static List<Integer> seen(Counted x) {
        List<Integer> all = new ArrayList<>();
        for (int w = 0; w < 14; w++) all.add(x.look(w));
        for (int i = 0; i < 60; i++) for (int w = 0; w < 3; w++) all.add(x.inch(i, w));
        for (int t = 0; t < 8; t++) for (int w = 0; w < 9; w++) all.add(x.of(t, w));
        for (int i = 9; i < 20; i++) for (int w = 0; w < 4; w++) all.add(x.book(i, w));
        for (int w = 0; w < 3; w++) all.add(x.says(w));
        for (int w = 0; w < 4; w++) all.add(x.goes(5, w));
        for (int w = 0; w < 2; w++) {
            all.add(x.legs(w));
            all.add(x.cover(w));
            all.add(x.wings(w));
        }
        for (int w = 0; w < 3; w++) all.add(x.order(w));
        all.add(x.order(13));
        return all;
    }

    /** The FAULT, the TAPE, what can be undone, and what was told for thought. */
    private static List<Integer> seenElse(Counted x) {
        List<Integer> all = new ArrayList<>();
        for (int w = -1; w < 3; w++) all.add(x.fault(w));
        all.add(x.look(14));
        all.add(x.end(STRIP_TEXT.length() + 1) ? 1 : 0);
        all.add(x.end(STRIP_TEXT.length()) ? 1 : 0);
        all.add(x.text(3));
        all.add(x.order(19));
        int full = x.kind(0) + 100 * x.words(1, 1) + 10000 * x.sight(1) + 1000000 * x.vein(0, 0, 1);
        all.add(full);
        all.add(x.vein(1, 0, 5));
        all.add(x.vein(1, 0, 6));
        for (int i = 0; i < 7; i++) {
            all.add(x.undo() ? 1 : 0);
            for (int w = 0; w < 15; w++) all.add(x.look(w));
            all.add(x.inch(21, 2));
            all.add(x.inch(7, 0));
        }
        all.add(x.image(false) ? 1 : 0);
        for (int w = 0; w < 15; w++) all.add(x.look(w));
        for (int i = 0; i < 60; i++) all.add(x.inch(i, 0) + 100 * x.inch(i, 2));
        return all;
    }

    private static void same(String call, List<Integer> got, List<Integer> want) {
        due(call + ": how much is seen", got.size(), want.size());
        for (int i = 0; i < got.size(); i++) due(call + ": seen " + i, got.get(i), want.get(i));
    }

    private static Counted after(Consumer<Counted> more) {
        Counted x = prepared();
        more.accept(x);
        return x;
    }

    private static void changesNothing(String call, Consumer<Counted> more) {
        same(call, seen(after(more)), seen(prepared()));
        same(call, seenElse(after(more)), seenElse(prepared()));
    }

    /** What cannot be done is answered by false or NONE, and nothing is done. */
    private static void refusedChangesNothing() {
        Map<String, Consumer<Counted>> calls = new LinkedHashMap<>();
        int[][] sets = {{0, 60, 1}, {0, -1, 1}, {0, 5, 100}, {0, 5, -1}, {1, 3, 0}, {1, 3, 10}, {2, 3, -1}, {2, 3, 10},
            {3, 3, 7}, {3, 3, -1}, {1, 0, 1}, {2, 99, 1}, {3, -1, 1}, {4, 0, 10}, {4, 0, -1}, {5, 0, 10}, {6, 3, 1}, {-1, 3, 1}};
        for (int[] s : sets) calls.put("set " + s[0] + " " + s[1] + " " + s[2], x -> due("set", x.set(s[0], s[1], s[2]), false));
        int[][] puts = {{6, 1, 1, 0}, {-1, 1, 1, 0}, {0, 0, 1, 0}, {0, 10, 1, 0}, {0, 1, -1, 0}, {0, 1, 10, 0}, {0, 1, 1, 60},
            {0, 1, 1, -1}, {0, 1, 1, 8}};
        for (int[] p : puts) calls.put("put " + p[0] + p[1] + p[2] + p[3], x -> due("put", x.put(p[0], p[1], p[2], p[3]), -1));
        int[][] acts = {{0, 0, 0}, {0, 99, 0}, {0, -1, 0}, {1, 60, 5}, {1, -1, 5}, {1, 5, 100}, {1, 5, -1}, {2, 1, 1}, {-1, 1, 1}};
        for (int[] a : acts) calls.put("act " + a[0] + " " + a[1] + " " + a[2], x -> due("act", x.act(a[0], a[1], a[2]), false));
        for (int n : new int[] {0, -1, 61}) calls.put("days " + n, x -> due("days", x.days(n), -1));
        for (int n : new int[] {20, -1, 400}) calls.put("end " + n, x -> due("end", x.end(n), false));
        for (int v : new int[] {0, 5, 6, -2}) calls.put("kind " + v, x -> due("kind", x.kind(v), -1));
        calls.put("words", x -> due("words", x.words(1, 1), -1));
        calls.put("words that can't be", x -> due("words", x.words(0, 1), -1));
        calls.put("sight", x -> due("sight", x.sight(1), -1));
        calls.put("sight that can't be", x -> due("sight", x.sight(4096), -1));
        calls.put("vein", x -> due("vein", x.vein(0, 1, 3), -1));
        calls.put("vein alike", x -> due("vein", x.vein(1, 3, 3), -1));
        calls.put("vein of no wing", x -> due("vein", x.vein(2, -1, 0), -1));
        calls.forEach(KeptTest::changesNothing);
    }

    /** "(nothing of it stays; no DRAWS)": each question, in words that can be and in words that can't. */
    private static void askedChangesNothing() {
        Map<String, Consumer<Counted>> calls = new LinkedHashMap<>();
        for (int w = -1; w < 5; w++) {
            int what = w;
            calls.put("goes 60 " + w, x -> x.goes(60, what));
            calls.put("heaps, says, pass, squires, game, fault " + w, x -> {
                x.heaps(what);
                x.says(what);
                x.pass(5, what);
                x.squires(what);
                x.game(what);
                x.fault(what);
            });
            calls.put("legs, cover, wings, held, book, inch " + w, x -> {
                x.legs(what);
                x.cover(what);
                x.wings(what);
                x.held(20, 9, what);
                x.book(what, what);
                x.inch(20, what);
            });
        }
        calls.put("go", x -> {
            for (int v = -2; v < 11; v++) x.go(v);
        });
        calls.put("order", x -> {
            for (int w = -1; w < 43; w++) x.order(w);
        });
        calls.put("of, leans, nearest", x -> {
            for (int w = -1; w < 11; w++) x.of(3, w);
            for (int t = -1; t < 8; t++) x.leans(t);
            for (int k = -1; k < 7; k++) x.nearest(k);
        });
        calls.put("dates", x -> {
            x.weekday(20261119);
            x.weekday(0);
            x.between(17000101, 20991231);
            x.between(1, 2);
        });
        calls.put("look", x -> {
            for (int w = -1; w < 16; w++) x.look(w);
        });
        calls.forEach(KeptTest::changesNothing);
    }

    private static void fullTapeTakesNothing() {
        Counted x = prepared();
        x.end(0);
        for (int i = 0; i < 20; i++) Check.feed(x, " ".repeat(20));
        due("full", x.feed(1, 2, 3, 4, 5), -1);
        due("as it was", x.end(400), true);
        x.end(0);
        Check.feed(x, STRIP_TEXT);
        same("a full tape", seenElse(x), seenElse(prepared()));
    }

    /** "the latest DAY, PUTTING, TWEEZING, BOILING not undone yet goes back (STATE, THE BOOK, too)". */
    private static void undoGoesBack() {
        Map<String, Consumer<Counted>> calls = new LinkedHashMap<>();
        calls.put("a day", x -> x.days(1));
        calls.put("a putting", x -> x.put(4, 9, 9, 0));
        calls.put("a tweezing", x -> x.act(0, 3, 0));
        calls.put("a boiling", x -> x.act(1, 0, 99));
        calls.forEach((name, call) -> changesNothing(name + " undone", x -> {
            call.accept(x);
            due(name + " can be undone", x.look(14), 6);
            due("undo " + name, x.undo(), true);
        }));
        Map<String, Consumer<Counted>> others = new LinkedHashMap<>();
        others.put("a day", x -> x.days(1));
        others.put("a putting", x -> x.put(3, 1, 1, 1));
        others.put("a tweezing", x -> x.act(0, 5, 0));
        others.put("a boiling", x -> x.act(1, 12, 0));
        calls.forEach((name, call) -> others.forEach((other, then) -> {
            List<Integer> got = seen(after(x -> {
                call.accept(x);
                then.accept(x);
                x.undo();
                x.undo();
            }));
            same(name + " and " + other + " undone", got, seen(prepared()));
        }));
    }

    /** Of days told by one call each goes back by one undo. */
    private static void undoOfEachDay() {
        for (int back = 1; back <= 6; back++) {
            int left = 9 - back;
            int undone = back;
            List<Integer> got = seen(after(x -> {
                x.days(9);
                for (int i = 0; i < undone; i++) due("undo", x.undo(), true);
            }));
            same(back + " of nine days undone", got, seen(after(x -> x.days(left))));
        }
        Counted x = prepared();
        x.days(60);
        due("six", x.look(14), 6);
        for (int i = 0; i < 6; i++) due("undo", x.undo(), true);
        due("the seventh", x.undo(), false);
        due("54 days stay", x.look(7), 58);
    }

    /** "6 are kept". */
    private static void sixAreKept() {
        for (int many = 0; many <= 14; many++) {
            Counted x = new Counted();
            for (int i = 0; i < many; i++) {
                due("to undo", x.look(14), Math.min(6, i));
                if (i % 4 == 0) x.put(0, 1, 0, i);
                if (i % 4 == 1) x.act(1, i, 7);
                if (i % 4 == 2) x.days(1);
                if (i % 4 == 3) x.act(0, (i - 3) / 4, 0);
            }
            int kept = Math.min(6, many);
            due("to undo of " + many, x.look(14), kept);
            for (int i = 1; i <= kept; i++) {
                due("undo " + i + " of " + many, x.undo(), true);
                due("left", x.look(14), kept - i);
            }
            due("no more of " + many, x.undo(), false);
            due("nothing left", x.look(14), 0);
            int stay = many - kept;
            due("came", x.look(1), (stay + 3) / 4);
            due("boiled", x.inch(1, 0) == 7 ? 1 : 0, stay > 1 ? 1 : 0);
            due("day", x.look(7), (stay + 1) / 4);
            due("read", x.look(3), stay / 4);
        }
    }

    /** "not undone yet": what was undone is not undone again, and what is done then is kept anew. */
    private static void undoneOnceAlone() {
        Counted x = new Counted();
        due("nothing yet", x.undo(), false);
        x.act(1, 0, 10);
        x.act(1, 0, 20);
        x.act(1, 0, 30);
        due("undo", x.undo(), true);
        due("20", x.inch(0, 0), 20);
        x.act(1, 0, 40);
        due("undo", x.undo(), true);
        due("20", x.inch(0, 0), 20);
        due("undo", x.undo(), true);
        due("10", x.inch(0, 0), 10);
        due("undo", x.undo(), true);
        due("50", x.inch(0, 0), 50);
        due("no more", x.undo(), false);
        due("50", x.inch(0, 0), 50);
        x.act(1, 0, 60);
        due("undo", x.undo(), true);
        due("50", x.inch(0, 0), 50);
        due("no more", x.undo(), false);
        Counted y = new Counted();
        due("put", y.put(0, 1, 0, 5), 0);
        y.undo();
        due("the number is free again", y.put(1, 2, 3, 6), 0);
        due("where it was put", y.of(0, 3), 6);
        due("one line", y.look(8), 1);
        due("its inch", y.book(0, 3), 6);
    }

    /** What was told between goes not back: THE LAW, STRIPS, SAYS, LEGS, COVER, WING. */
    private static void undoLeavesWhatIsToldForThought() {
        Counted x = new Counted();
        x.put(3, 1, 0, 0);
        Check.tell(x, 0, "frees 5;frees 6;");
        Check.tell(x, 3, "strip 0 on strip 1;");
        x.kind(3);
        x.words(1, 5);
        x.sight(7);
        x.vein(0, 0, 1);
        x.vein(1, 0, 1);
        due("undo", x.undo(), true);
        due("law", x.look(10), 2);
        due("strips", x.look(13), 1);
        due("kind", x.kind(3), 2);
        due("words", x.words(1, 5), 2);
        due("sight", x.sight(7), 2);
        due("vein 0", x.vein(0, 0, 1), 2);
        due("vein 1", x.vein(1, 0, 1), 2);
        x.put(3, 1, 0, 0);
        x.text(0);
        x.text(3);
        x.kind(-1);
        x.words(-1, 0);
        x.sight(-1);
        x.vein(0, -1, 0);
        x.vein(1, -1, 0);
        due("undo", x.undo(), true);
        due("law", x.look(10), 0);
        due("strips", x.look(13), 0);
        due("kind", x.kind(3), 1);
        due("words", x.words(1, 5), 1);
        due("sight", x.sight(7), 1);
        due("vein 0", x.vein(0, 0, 1), 1);
        due("vein 1", x.vein(1, 0, 1), 1);
    }

    private static void leaves(String name, Consumer<Counted> call, int kept) {
        Counted x = new Counted();
        x.image(true);
        x.put(0, 1, 0, 5);
        x.act(1, 6, 60);
        call.accept(x);
        due("to undo after " + name, x.look(14), kept);
        due("undo after " + name, x.undo(), kept > 0);
        due("to undo then", x.look(14), Math.max(0, kept - 1));
    }

    /** "whatever else is told ... forgets them": also if it tells what was so already. */
    private static void whatForgets() {
        leaves("state", x -> x.state(0), 0);
        leaves("state", x -> x.state(5), 0);
        leaves("glue", x -> x.set(0, 9, 50), 0);
        leaves("glue", x -> x.set(0, 9, 0), 0);
        leaves("size", x -> x.set(1, 0, 1), 0);
        leaves("life", x -> x.set(2, 0, 9), 0);
        leaves("limbs", x -> x.set(3, 0, 6), 0);
        leaves("wind", x -> x.set(4, 0, 0), 0);
        leaves("heat", x -> x.set(5, 0, 9), 0);
        leaves("no flight", x -> x.text(1), 0);
        leaves("no sky", x -> x.text(2), 0);
        leaves("a flight", x -> Check.tell(x, 1, "on 0 fly 1 0 at 0;"), 0);
        leaves("a sky", x -> Check.tell(x, 2, "on 0 wind 0;"), 0);
        leaves("the image gone back to", x -> x.image(false), 0);
    }

    /** "but THE LAW, STRIPS and what is told for thought"; what is refused tells nothing. */
    private static void whatDoesNotForget() {
        leaves("nothing", x -> x.look(0), 2);
        leaves("a law", x -> Check.tell(x, 0, "frees 1;"), 2);
        leaves("no law", x -> x.text(0), 2);
        leaves("strips", x -> Check.tell(x, 3, "strip 0 on strip 1;"), 2);
        leaves("no strips", x -> x.text(3), 2);
        leaves("a kind", x -> x.kind(0), 2);
        leaves("no kind", x -> x.kind(-1), 2);
        leaves("a word", x -> x.words(1, 0), 2);
        leaves("no word", x -> x.words(-1, 0), 2);
        leaves("a look", x -> x.sight(0), 2);
        leaves("no look", x -> x.sight(-1), 2);
        leaves("a vein", x -> x.vein(0, 0, 1), 2);
        leaves("no vein", x -> x.vein(1, -1, 0), 2);
        leaves("the taking of the image", x -> x.image(true), 2);
        leaves("a wrong law", x -> Check.tell(x, 0, "x"), 2);
        leaves("a wrong flight", x -> Check.tell(x, 1, "x"), 2);
        leaves("a wrong sky", x -> Check.tell(x, 2, "x"), 2);
        leaves("no such text", x -> x.text(4), 2);
        leaves("a wrong set", x -> x.set(0, 60, 0), 2);
        leaves("a wrong put", x -> x.put(0, 1, 0, 5), 2);
        leaves("a wrong act", x -> x.act(0, 9, 0), 2);
        leaves("wrong days", x -> x.days(0), 2);
        leaves("a putting", x -> x.put(0, 1, 0, 8), 3);
        leaves("two days", x -> x.days(2), 4);
    }

    /** "true; false if there is none". */
    private static void noImage() {
        Counted x = new Counted();
        x.put(0, 1, 0, 5);
        due("none yet", x.image(false), false);
        due("nothing is done", x.look(0), 1);
        due("nothing is forgotten", x.look(14), 1);
        due("taken", x.image(true), true);
        due("gone back to", x.image(false), true);
        due("again", x.image(false), true);
    }

    private static Map<String, Consumer<Counted>> changes() {
        Map<String, Consumer<Counted>> calls = new LinkedHashMap<>();
        calls.put("state", x -> x.state(5));
        calls.put("glue", x -> x.set(0, 30, 3));
        calls.put("size", x -> x.set(1, 3, 9));
        calls.put("life", x -> x.set(2, 3, 1));
        calls.put("limbs", x -> x.set(3, 3, 3));
        calls.put("wind", x -> x.set(4, 0, 9));
        calls.put("heat", x -> x.set(5, 0, 1));
        calls.put("put", x -> x.put(5, 5, 5, 0));
        calls.put("tweeze", x -> x.act(0, 2, 0));
        calls.put("boil", x -> x.act(1, 11, 99));
        calls.put("days", x -> x.days(12));
        calls.put("undo", x -> {
            x.undo();
            x.undo();
            x.undo();
        });
        String[] texts = {"frees 1;", "on 4 fly 1 0 at 0;", "on 4 wind 9;", "strip 0 on strip 3;"};
        for (int k = 0; k < 4; k++) {
            int text = k;
            calls.put("text " + k, x -> {
                x.end(0);
                due("told", Check.tell(x, text, texts[text]), 1);
            });
        }
        calls.put("kind", x -> {
            x.kind(-1);
            x.kind(4);
        });
        calls.put("words", x -> x.words(-1, 0));
        calls.put("sight", x -> x.sight(-1));
        calls.put("vein 0", x -> x.vein(0, -1, 0));
        calls.put("vein 1", x -> x.vein(1, -1, 0));
        return calls;
    }

    /** "all that is and was told ... as it was when it was taken". */
    private static void imageHasAll() {
        List<Integer> want = seen(prepared());
        Map<String, Consumer<Counted>> calls = changes();
        calls.put("nothing", x -> x.look(0));
        calls.forEach((name, call) -> {
            List<Integer> changed = seen(after(call));
            due(name + " changes something", changed.equals(want), name.equals("nothing"));
            List<Integer> got = seen(after(x -> {
                due("taken", x.image(true), true);
                call.accept(x);
                due("gone back to", x.image(false), true);
                due("nothing can be undone", x.look(14), 0);
                due("undo", x.undo(), false);
            }));
            same("the image after " + name, got, want);
        });
    }

    /** "gone back to it may be more than once": what is done between does not come into it. */
    private static void imageMoreThanOnce() {
        List<Integer> want = seen(prepared());
        changes().forEach((name, call) -> {
            List<Integer> got = seen(after(x -> {
                x.image(true);
                x.days(1);
                x.image(false);
                call.accept(x);
                x.image(false);
                x.image(false);
            }));
            same("the image twice with " + name, got, want);
        });
    }

    /** One image is kept, the latest; and the one of prepared() is there until then. */
    private static void imageTakenAnew() {
        Counted x = prepared();
        int day = x.look(7);
        due("the first", x.image(false), true);
        due("its day", x.look(7), day - 2);
        due("no kinds then", x.kind(4), 1);
        x.days(7);
        x.image(true);
        x.days(7);
        x.image(true);
        x.days(7);
        due("the latest", x.image(false), true);
        due("its day", x.look(7), day - 2 + 14);
        due("its kind", x.kind(4), 2);
        Counted y = new Counted();
        y.image(true);
        y.put(0, 1, 0, 0);
        y.image(false);
        due("as new", y.look(0) + y.look(1) + y.look(8), 0);
        due("as new", y.put(1, 1, 0, 0), 0);
        due("as new", y.of(0, 0), 1);
    }

    /** "but the TAPE, fault() and what can be undone". */
    private static void imageHasNoTapeAndNoFault() {
        Counted x = new Counted();
        Check.tell(x, 0, "frees 1/0;");
        Check.feed(x, "frees 77;");
        x.image(true);
        Check.feed(x, "frees 88;");
        x.image(false);
        due("the tape goes on", x.end(18), true);
        due("the tape goes on", x.text(0), 2);
        due("no fault", x.fault(0), 0);
        x.image(false);
        due("still no fault", x.fault(0), 0);
        due("still no place", x.fault(1), -1);
        due("the tape is not there again", x.end(1), false);
        due("no law", x.look(10), 0);
        Check.tell(x, 0, "frees 1 1;");
        x.image(false);
        due("the latest fault", x.fault(0), 1);
        due("the latest place", x.fault(1), 8);
    }

    private static void imageAndUndo() {
        Counted x = new Counted();
        x.put(0, 1, 0, 5);
        x.put(0, 1, 0, 6);
        x.image(true);
        due("two to undo", x.look(14), 2);
        x.undo();
        due("one", x.look(0), 1);
        x.undo();
        due("none", x.look(0), 0);
        x.image(false);
        due("two", x.look(0), 2);
        due("nothing to undo", x.undo(), false);
        x.put(0, 1, 0, 7);
        due("one to undo", x.look(14), 1);
        x.undo();
        due("two", x.look(0), 2);
        due("not further", x.undo(), false);
        due("two", x.look(0), 2);
        due("the image is still there", x.image(false), true);
    }

    private static void often(String name, Consumer<Counted> call, Consumer<Counted> last) {
        Counted x = new Counted();
        while (x.left() > 3) call.accept(x);
        while (x.left() > 1) x.look(0);
        last.accept(x);
        due("512 calls of " + name, x.left(), 0);
    }

    /** "An object is used for at most 512 calls": the 512th is answered like any other. */
    private static void fiveHundredAndTwelveCalls() {
        often("state", x -> x.state(x.look(9) + 1), x -> due("state", x.state(0), 255));
        often("put and tweeze", x -> x.act(0, x.put(0, 1, 0, 0), 0), x -> due("put", x.put(0, 1, 0, 0), 255));
        often("days", x -> x.days(19), x -> due("day", x.look(7), 509 * 19));
        often("boil and undo", x -> {
            x.act(1, 0, 9);
            x.undo();
        }, x -> due("glue", x.inch(0, 0), 50));
        often("boil", x -> x.act(1, 0, 9), x -> due("to undo", x.look(14), 6));
        often("image", x -> x.image(true), x -> due("image", x.image(false), true));
        often("image gone back to", x -> x.image(x.look(7) + x.days(1) < 1), x -> due("image", x.image(false), true));
        often("feed and text", x -> {
            x.feed(0x66726565, 0x7320313b, 0x66726565, 0x7320323b, 0x20202020);
            x.text(0);
        }, x -> due("lines", x.look(10), 2));
        often("set", x -> x.set(0, 0, 99), x -> due("glue", x.inch(0, 0), 99));
        often("kind", x -> x.kind(x.kind(1) < 0 ? -1 : 1), x -> due("kind", x.kind(6), -1));
        often("words", x -> x.words(1, 1), x -> due("words", x.words(1, 1), -1));
        often("goes", x -> x.goes(60, 0), x -> due("goes", x.goes(60, 3), 3000));
        often("wings", x -> x.wings(0), x -> due("wings", x.wings(1), 40320));
        often("order", x -> x.order(21), x -> due("order", x.order(0), 4095));
    }
}
