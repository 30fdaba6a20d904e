/** Terms 4 as far as THINGS, FLIGHT and SKY are thought of: promises 14 to 21, 29 to 31 and 33. */
public final class ThoughtTest {
    private static final Check CHECK = new Check("ThoughtTest");
    private static final int LEAST = Integer.MIN_VALUE;
    private static final int MOST = Integer.MAX_VALUE;

    private ThoughtTest() {
    }

    private static void due(String call, long got, long want) {
        CHECK.due(call, got, want);
    }

    public static void main(String[] args) {
        goesBounds();
        goesTakesFiveHundred();
        goesThroughSkyAndFlight();
        goesFromWhatIs();
        goesCountsAll();
        nearestOfAKind();
        heapsOfNone();
        heapsAreNear();
        greatestHeap();
        heapsThatTurnBack();
        rowOfKinds();
        saysInOrder();
        waysToSay();
        longestRow();
        passWidths();
        passFullAndEmpty();
        wordBounds();
        wordsWithinLegs();
        leastSetOfWords();
        leanInARow();
        goBounds();
        goCountsWhoCouldGo();
        goOfTwenty();
        squiresOfFew();
        squiresOfSeveralWays();
        gameOfOne();
        gameOfTwo();
        gameOfSeveral();
        CHECK.finish();
    }

    private static Counted told(String law) {
        Counted x = new Counted();
        due("law " + law, Check.tell(x, 0, law), law.split(";").length);
        return x;
    }

    /** "GOES for n (1 .. 60) DAYS", "NONE if one can't be, or another what". */
    private static void goesBounds() {
        Counted x = told("sticks 1000;frees 0;slides 0;");
        Check.tell(x, 1, "on 0 fly 1 0 at 0;on 1 fly 1 0 at 1;on 58 fly 1 0 at 2;on 59 fly 1 0 at 3;on 60 fly 1 0 at 4;");
        int[] n = {1, 2, 58, 59, 60};
        int[] want = {1, 2, 2, 3, 4};
        for (int i = 0; i < 5; i++) due("goes " + n[i], x.goes(n[i], 0), want[i]);
        for (int v : new int[] {LEAST, -1, 0, 61, 62, MOST}) {
            for (int w = 0; w < 4; w++) due("goes " + v, x.goes(v, w), -1);
        }
        for (int w : new int[] {LEAST, -1, 4, 5, MOST}) due("goes what " + w, x.goes(1, w), -1);
        due("freed", x.goes(1, 1), 0);
        due("legs", x.goes(1, 2), 0);
        due("glue", x.goes(1, 3), 2999);
    }

    /** "no DRAWS: it sticks, gets free, if that is 500 at least". */
    private static void goesTakesFiveHundred() {
        for (int chance : new int[] {0, 1, 499, 500, 501, 1000}) {
            boolean sure = chance >= 500;
            Counted x = told("sticks " + chance + ";frees 0;slides 0;");
            Check.tell(x, 1, "on 0 fly 7 0 at 5;");
            x.state(1188);
            due("sticks " + chance, x.goes(1, 0), sure ? 1 : 0);
            due("glue", x.goes(1, 3), sure ? 2993 : 3000);
            due("no draw", x.look(9), 1188);
            Counted y = told("frees " + chance + ";slides 0;");
            y.put(0, 1, 9, 0);
            due("legs by " + chance, y.goes(1, 2), sure ? 1 : 0);
            due("five legs by " + chance, y.goes(60, 2), sure ? 5 : 0);
            due("not free yet", y.goes(5, 1), 0);
            due("free by " + chance, y.goes(6, 1), sure ? 1 : 0);
            due("gone by " + chance, y.goes(6, 0), sure ? 0 : 1);
        }
    }

    private static void goesThroughSkyAndFlight() {
        Counted x = told("sticks 500 when wind=3;sticks 0;frees 0;slides 1 when heat=5;slides 0;");
        Check.tell(x, 1, "on 0 fly 1 0 at 57;on 1 fly 1 0 at 0;on 2 fly 1 0 at 0;");
        Check.tell(x, 2, "on 0 wind 3;on 1 wind 4;on 2 wind 3;on 3 heat 5;on 4 boil 59 99;on 4 dry 9;");
        int[] things = {1, 1, 2, 2, 2, 1};
        int[] freed = {0, 0, 0, 0, 0, 1};
        for (int n = 1; n <= 6; n++) {
            due("things in " + n, x.goes(n, 0), things[n - 1]);
            due("freed in " + n, x.goes(n, 1), freed[n - 1]);
        }
        due("glue in 1", x.goes(1, 3), 2999);
        due("glue in 3", x.goes(3, 3), 2998);
        due("glue in 4", x.goes(4, 3), 2998 - 58);
    }

    /** "(nothing of it stays)": and it begins with what is, LEGS, FREED and LIMBS too. */
    private static void goesFromWhatIs() {
        Counted x = told("frees 1000;slides 0;");
        x.put(0, 1, 9, 0);
        x.put(0, 1, 9, 1);
        x.set(3, 0, 1);
        x.days(3);
        due("freed", x.look(2), 1);
        due("legs", x.look(6), 3);
        for (int round = 0; round < 2; round++) {
            due("legs in 2", x.goes(2, 2), 5);
            due("freed in 2", x.goes(2, 1), 1);
            due("freed in 3", x.goes(3, 1), 2);
            due("things in 3", x.goes(3, 0), 0);
        }
        due("day", x.look(7), 3);
        due("things", x.look(0), 1);
        due("limbs", x.of(1, 5), 3);
        due("life", x.of(1, 2), 6);
        due("age", x.of(1, 4), 3);
        due("lines", x.look(8), 6);
        due("to undo", x.look(14), 3);
        due("freed", x.look(2), 1);
        due("legs", x.inch(1, 1), 3);
    }

    /** "how many THINGS, FREED, LEGS of all, GLUE of all then", with the bounds of a DAY. */
    private static void goesCountsAll() {
        Counted x = told("sticks 1000;frees 0;slides 1 when inch>56;slides 0;");
        for (int i = 0; i < 19; i++) x.put(0, 1, 0, 2 * i);
        x.put(0, 1, 0, 59);
        Check.tell(x, 1, "on 0 fly 9 0 at 50;on 1 fly 9 0 at 0;on 1 fly 9 0 at 50;on 1 fly 9 0 at 52;");
        due("one falls off, none comes", x.goes(1, 0), 19);
        due("freed", x.goes(1, 1), 1);
        due("glue as it was", x.goes(1, 3), 3000);
        due("one comes, no more", x.goes(2, 0), 20);
        due("glue less 9", x.goes(2, 3), 2991);
        x.set(5, 0, 9);
        due("glue: 41 inches dry", x.goes(1, 3), 3000 - 41);
        Counted y = told("frees 0;slides 0;");
        y.set(5, 0, 5);
        due("50 days dry all", y.goes(50, 3), 0);
        due("49 days", y.goes(49, 3), 60);
        due("60 days", y.goes(60, 3), 0);
    }

    /** "the THING nearest to the tack (its number; NONE)", "NONE, too, for another KIND". */
    private static void nearestOfAKind() {
        Counted x = new Counted();
        for (int k : new int[] {LEAST, -2, -1, 0, 5, 6, 7, MOST}) due("none of " + k, x.nearest(k), -1);
        for (int k = 0; k <= 5; k++) {
            x.put(k, 1, 0, 59 - k);
            due("alone of " + k, x.nearest(k), 2 * k);
            x.put(k, 1, 0, k);
            due("the nearer one of " + k, x.nearest(k), 2 * k + 1);
        }
        x.put(0, 1, 0, 6);
        due("not the latest", x.nearest(0), 1);
        for (int k : new int[] {LEAST, -1, 6, MOST}) due("another kind " + k, x.nearest(k), -1);
        x.act(0, 1, 0);
        due("6 is nearer than 59", x.nearest(0), 12);
    }

    private static void heapsOfNone() {
        Counted x = new Counted();
        due("no part", x.heaps(0), 0);
        due("none has most", x.heaps(1), 0);
        due("none is least", x.heaps(2), -1);
        for (int w : new int[] {LEAST, -1, 3, MOST}) due("another what " + w, x.heaps(w), -1);
        x.put(0, 1, 0, 59);
        due("one part", x.heaps(0), 1);
        due("of one", x.heaps(1), 1);
        due("at 59", x.heaps(2), 59);
    }

    private static void parts(int a, int b, int want) {
        Counted x = new Counted();
        x.put(0, 1, 0, a);
        x.put(0, 1, 0, b);
        due("parts of " + a + " and " + b, x.heaps(0), want);
        due("the least of " + a + " and " + b, x.heaps(2), Math.min(a, b));
    }

    /** "THINGS near one another hang together". */
    private static void heapsAreNear() {
        for (int b = 0; b < 60; b++) {
            if (b != 25) parts(25, b, b == 24 || b == 26 || b == 15 || b == 35 ? 1 : 2);
            if (b != 0) parts(0, b, b == 1 || b == 10 ? 1 : 2);
            if (b != 59) parts(59, b, b == 58 || b == 49 ? 1 : 2);
            if (b != 9) parts(9, b, b == 8 || b == 10 || b == 19 ? 1 : 2);
        }
    }

    /** "the greatest part (of several that with the least INCH: that INCH)". */
    private static void greatestHeap() {
        Counted x = new Counted();
        for (int i : new int[] {41, 40, 50, 21, 22}) x.put(0, 1, 0, i);
        due("two parts", x.heaps(0), 2);
        due("of three", x.heaps(1), 3);
        due("from 40", x.heaps(2), 40);
        x.put(0, 1, 0, 12);
        due("of three", x.heaps(1), 3);
        due("of two the least inch", x.heaps(2), 12);
        x.put(0, 1, 0, 31);
        due("one part", x.heaps(0), 1);
        due("of seven", x.heaps(1), 7);
        x.act(0, 5, 0);
        due("of six", x.heaps(1), 6);
        due("from 21", x.heaps(2), 21);
        for (int w : new int[] {LEAST, -1, 3, MOST}) due("another what " + w, x.heaps(w), -1);
        Counted y = new Counted();
        for (int i = 0; i < 20; i++) y.put(0, 1, 0, 3 * i);
        due("twenty parts", y.heaps(0), 20);
        Counted z = new Counted();
        for (int i = 0; i < 19; i++) z.put(0, 1, 0, i);
        due("one part", z.heaps(0), 1);
        due("of nineteen", z.heaps(1), 19);
        due("from 0", z.heaps(2), 0);
        z.put(0, 1, 0, 19);
        due("of twenty", z.heaps(1), 20);
    }

    /** A part that hangs together by any of the four ways alone, back towards the tack too. */
    private static void heapsThatTurnBack() {
        int[][] rows = {{0, 10, 11, 12, 2}, {2, 12, 11, 10, 0}, {5, 15, 14, 24, 25, 26, 16}, {30, 31, 32, 22, 12, 11, 10},
            {40, 50, 51, 52, 53, 43, 33, 32, 31, 30}, {9, 19, 18, 28, 27, 17, 7}};
        for (int[] row : rows) {
            Counted x = new Counted();
            int least = 59;
            for (int i : row) {
                x.put(0, 1, 0, i);
                least = Math.min(least, i);
            }
            due("one part", x.heaps(0), 1);
            due("of all", x.heaps(1), row.length);
            due("its least", x.heaps(2), least);
        }
    }

    /** "A KIND more of the row for SAYS (NONE: it is empty then): how many; NONE if one can't be, or there are eight". */
    private static void rowOfKinds() {
        Counted x = new Counted();
        due("empty", x.kind(-1), 0);
        for (int v : new int[] {LEAST, -2, 6, 7, MOST}) due("kind " + v, x.kind(v), -1);
        due("still empty", x.says(0), 1);
        for (int v = 0; v <= 5; v++) due("kind " + v, x.kind(v), v + 1);
        due("a wrong one", x.kind(6), -1);
        due("the seventh", x.kind(0), 7);
        due("the eighth", x.kind(1), 8);
        due("the ninth", x.kind(1), -1);
        due("a wrong ninth", x.kind(6), -1);
        int[] row = {0, 1, 2, 3, 4, 5, 0, 1};
        for (int i = 0; i < 8; i++) {
            due("not whole yet", x.says(0), 0);
            x.put(row[i], 1, 0, 5 * i);
        }
        due("all eight", x.says(0), 1);
        due("in one way", x.says(1), 1);
        due("empty again", x.kind(-1), 0);
        due("says", x.says(0), 1);
        due("ways", x.says(1), 1);
        due("the first", x.kind(5), 1);
        due("ways", x.says(1), 1);
    }

    /** "whether it is in that row in order (not side by side alone): 1, 0". */
    private static void saysInOrder() {
        Counted x = new Counted();
        x.put(2, 1, 0, 30);
        x.put(1, 1, 0, 10);
        x.put(3, 1, 0, 50);
        int[][] rows = {{1}, {2}, {3}, {1, 2}, {2, 3}, {1, 3}, {1, 2, 3}};
        for (int[] r : rows) {
            x.kind(-1);
            for (int k : r) x.kind(k);
            due("in order", x.says(0), 1);
            due("in one way", x.says(1), 1);
        }
        for (int[] r : new int[][] {{0}, {2, 1}, {3, 1}, {1, 1}, {1, 3, 2}, {1, 2, 3, 3}, {1, 2, 3, 4}, {2, 1, 2, 3}}) {
            x.kind(-1);
            for (int k : r) x.kind(k);
            due("not in order", x.says(0), 0);
            due("in no way", x.says(1), 0);
        }
        for (int w : new int[] {LEAST, -1, 3, MOST}) due("another what " + w, x.says(w), -1);
    }

    /** "in how many ways". */
    private static void waysToSay() {
        Counted x = new Counted();
        for (int i = 0; i < 20; i++) x.put(i % 2, 1, 0, 2 * i);
        int[] alike = {1, 10, 45, 120, 210, 252, 210, 120, 45};
        for (int n = 1; n <= 8; n++) {
            x.kind(0);
            due("of one kind, " + n, x.says(1), alike[n]);
            due("whether", x.says(0), 1);
        }
        x.kind(-1);
        x.kind(0);
        x.kind(1);
        due("0 ahead of 1", x.says(1), 55);
        x.kind(-1);
        x.kind(1);
        x.kind(0);
        due("1 ahead of 0", x.says(1), 45);
        x.kind(0);
        due("1, 0, 0", x.says(1), 120);
        Counted y = new Counted();
        for (int i = 0; i < 20; i++) y.put(5, 1, 0, 59 - i);
        int[] ways = {20, 190, 1140, 4845, 15504, 38760, 77520, 125970};
        for (int n = 0; n < 8; n++) {
            y.kind(5);
            due("of twenty, " + (n + 1), y.says(1), ways[n]);
            due("whether", y.says(0), 1);
        }
    }

    /** A THING for each age told, from the tack on, the oldest put first. */
    private static Counted aged(int... ages) {
        Counted x = told("frees 0;slides 0;");
        for (int age = 9; age >= 0; age--) {
            for (int i = 0; i < ages.length; i++) {
                if (ages[i] == age) x.put(0, 1, 0, 2 * i);
            }
            if (age > 0) x.days(1);
        }
        return x;
    }

    /** "LONGEST row of THINGS (by INCH upwards) whose AGES go up at each: how many". */
    private static void longestRow() {
        due("none", aged().says(2), 0);
        due("one", aged(4).says(2), 1);
        due("up", aged(1, 2).says(2), 2);
        due("alike do not go up", aged(2, 2).says(2), 1);
        due("down", aged(2, 1).says(2), 1);
        due("all up", aged(0, 1, 2, 3, 4, 5, 6, 7, 8, 9).says(2), 10);
        due("all down", aged(9, 8, 7, 6, 5, 4, 3, 2, 1, 0).says(2), 1);
        due("1 2 2 3", aged(1, 2, 2, 3).says(2), 3);
        due("all up, each twice", aged(0, 0, 1, 1, 2, 2, 3, 3).says(2), 4);
    }

    /** "PASS of a width w (1 .. 59)", "NONE if w can't be, or another what". */
    private static void passWidths() {
        Counted x = new Counted();
        for (int w : new int[] {LEAST, -1, 0, 60, 61, MOST}) {
            due("width " + w, x.pass(w, 0), -1);
            due("width " + w, x.pass(w, 1), -1);
        }
        for (int what : new int[] {LEAST, -1, 2, MOST}) due("another what " + what, x.pass(1, what), -1);
        for (int w : new int[] {1, 2, 58, 59}) {
            due("first of " + w, x.pass(w, 0), 0);
            due("how many of " + w, x.pass(w, 1), 61 - w);
        }
        x.put(0, 1, 0, 0);
        due("59 from 1", x.pass(59, 0), 1);
        due("one of 59", x.pass(59, 1), 1);
        x.put(0, 1, 0, 59);
        due("none of 59", x.pass(59, 0), -1);
        due("none of 59", x.pass(59, 1), 0);
        due("58 from 1", x.pass(58, 0), 1);
        due("one of 58", x.pass(58, 1), 1);
        x.put(0, 1, 0, 30);
        due("29 from 1", x.pass(29, 0), 1);
        due("one of 29", x.pass(29, 1), 1);
        due("28: two and one", x.pass(28, 1), 3);
        due("none of 30", x.pass(30, 0), -1);
        x.put(0, 1, 0, 2);
        due("28 from 31", x.pass(28, 0), 31);
        due("27 from 3", x.pass(27, 0), 3);
        due("27: one and two", x.pass(27, 1), 3);
        due("1 from 1", x.pass(1, 0), 1);
        due("2 from 3", x.pass(2, 0), 3);
    }

    private static void passFullAndEmpty() {
        Counted x = new Counted();
        for (int i = 0; i < 20; i++) x.put(0, 1, 0, 3 * i + 1);
        due("each alone or in twos", x.pass(1, 1), 40);
        due("in twos", x.pass(2, 1), 19);
        due("the first two", x.pass(2, 0), 2);
        due("no three", x.pass(3, 1), 0);
        due("no three", x.pass(3, 0), -1);
        due("59 alone", x.pass(1, 0), 0);
    }

    /** "up to 6 (how many legs each 1 .. 30, worth 0 .. 99)". */
    private static void wordBounds() {
        Counted x = new Counted();
        due("none yet", x.legs(0), 0);
        due("no set yet", x.legs(1), 0);
        for (int l : new int[] {LEAST, -2, 0, 31, 32, MOST}) due("legs " + l, x.words(l, 1), -1);
        for (int w : new int[] {LEAST, -1, 100, 101, MOST}) due("worth " + w, x.words(1, w), -1);
        int[][] can = {{1, 0}, {30, 99}, {2, 1}, {29, 98}, {1, 1}, {30, 0}};
        for (int i = 0; i < 6; i++) due("word " + i, x.words(can[i][0], can[i][1]), i + 1);
        due("the seventh", x.words(1, 1), -1);
        due("a wrong seventh", x.words(0, 1), -1);
        due("none then, whatever worth", x.words(-1, LEAST), 0);
        due("none then", x.words(-1, 100), 0);
        due("the first", x.words(30, 99), 1);
        for (int w : new int[] {LEAST, -1, 2, MOST}) due("another what " + w, x.legs(w), -1);
    }

    /** With 29 LEGS in all, then 30. */
    private static Counted legged() {
        Counted x = told("frees 1000;slides 0;");
        for (int i = 0; i < 6; i++) x.put(0, 1, 0, 10 * i);
        x.set(3, 5, 5);
        x.days(4);
        x.act(0, 5, 0);
        x.act(0, 4, 0);
        x.act(0, 3, 0);
        x.act(0, 2, 0);
        x.act(0, 1, 0);
        due("24", x.look(6), 24);
        x.days(1);
        due("25", x.look(6), 25);
        x.put(0, 1, 0, 59);
        x.days(4);
        due("29", x.look(6), 29);
        return x;
    }

    /** "of LEGS of all INCHES together: the most worth, each word once at most". */
    private static void wordsWithinLegs() {
        Counted x = legged();
        x.words(30, 99);
        due("30 of 29", x.legs(0), 0);
        due("30 of 29", x.legs(1), 0);
        x.words(29, 5);
        due("29 of 29", x.legs(0), 5);
        due("29 of 29", x.legs(1), 2);
        x.words(15, 4);
        x.words(15, 4);
        due("15 and 15 are too many", x.legs(0), 5);
        x.days(1);
        due("30", x.look(6), 30);
        due("30 of 30", x.legs(0), 99);
        due("30 of 30", x.legs(1), 1);
        x.words(-1, 0);
        x.words(15, 4);
        x.words(15, 5);
        due("both of them", x.legs(0), 9);
        due("both of them", x.legs(1), 3);
        x.words(1, 1);
        due("no room for the third", x.legs(0), 9);
        x.words(-1, 0);
        x.words(1, 9);
        due("once at most", x.legs(0), 9);
        for (int i = 0; i < 5; i++) x.words(1, 10);
        due("six", x.legs(0), 59);
        due("six", x.legs(1), 63);
    }

    /** "the set (of several the least)". */
    private static void leastSetOfWords() {
        Counted x = legged();
        x.words(20, 6);
        x.words(20, 6);
        due("the first of two", x.legs(1), 1);
        x.words(9, 0);
        due("nothing is added for nothing", x.legs(1), 1);
        x.words(9, 1);
        due("7", x.legs(0), 7);
        due("1 and 8, not 2 and 8", x.legs(1), 9);
        x.words(-1, 0);
        x.words(10, 3);
        x.words(10, 4);
        x.words(10, 7);
        x.words(20, 7);
        due("11", x.legs(0), 11);
        due("2 and 4", x.legs(1), 6);
        x.words(-1, 0);
        x.words(29, 7);
        x.words(14, 3);
        x.words(15, 4);
        due("1, not 2 and 4", x.legs(1), 1);
        x.words(-1, 0);
        x.words(14, 3);
        x.words(15, 4);
        x.words(29, 7);
        due("1 and 2, not 4", x.legs(1), 3);
    }

    /** "SIZE of all in its row above it (lesser INCH) less SIZE of those below": a row ends at a gap and at both ends. */
    private static void leanInARow() {
        Counted x = new Counted();
        due("none", x.leans(0), -1000);
        int[][] all = {{0, 1}, {1, 2}, {2, 4}, {4, 9}, {9, 3}, {10, 5}, {19, 7}, {20, 8}, {57, 9}, {58, 1}, {59, 6}};
        int[] want = {-6, -3, 3, 0, -5, 3, -8, 7, -7, 3, 10};
        for (int[] a : all) x.put(0, a[1], 0, a[0]);
        for (int i = 0; i < all.length; i++) due("leans at " + all[i][0], x.leans(i), want[i]);
        for (int t : new int[] {LEAST, -1, 11, MOST}) due("not on it " + t, x.leans(t), -1000);
        x.act(0, 1, 0);
        due("gone", x.leans(1), -1000);
        due("alone now", x.leans(0), 0);
        due("first now", x.leans(2), 0);
        Counted y = new Counted();
        for (int i = 0; i < 20; i++) y.put(0, 9, 0, i);
        due("the first of twenty", y.leans(0), -171);
        due("the last of twenty", y.leans(19), 171);
    }

    /** "v (0 .. 9)", "(v NONE; NONE: none). NONE if v can't be". */
    private static void goBounds() {
        Counted x = told("frees 500 when wind>8;frees 499;");
        for (int v : new int[] {LEAST, -2, 10, 11, MOST}) due("go " + v, x.go(v), -1);
        for (int v = 0; v <= 9; v++) due("nobody by " + v, x.go(v), 0);
        due("none", x.go(-1), -1);
        x.put(0, 1, 0, 3);
        x.set(3, 0, 1);
        due("8", x.go(8), 0);
        due("9", x.go(9), 1);
        due("the least is the last", x.go(-1), 9);
        for (int v : new int[] {LEAST, -2, 10, 11, MOST}) due("go " + v, x.go(v), -1);
        Check.tell(x, 0, "frees 500 when wind<1;frees 499;");
        due("0", x.go(0), 1);
        due("1", x.go(1), 0);
        due("the least is the first", x.go(-1), 0);
        Check.tell(x, 0, "frees 500 when wind=3;frees 500 when wind=7;frees 0;");
        due("the least of two", x.go(-1), 3);
        Check.tell(x, 0, "frees 500 when wind=10;frees 0;");
        due("10 is no wind", x.go(-1), -1);
    }

    /** "how many THINGS with 1 LIMB at most would get free (frees 500 at least)"; WIND stays. */
    private static void goCountsWhoCouldGo() {
        Counted x = told("frees 100*wind+inch;");
        for (int limbs = 0; limbs <= 6; limbs++) {
            x.put(0, 1, 0, limbs);
            x.set(3, limbs, limbs);
        }
        x.set(4, 0, 6);
        due("wind 4", x.go(4), 0);
        due("wind 5", x.go(5), 2);
        due("wind 9", x.go(9), 2);
        due("the least", x.go(-1), 5);
        due("the wind stays", x.look(4), 6);
        due("nobody went", x.look(0), 7);
        Check.tell(x, 0, "frees 498+inch+wind;");
        due("498 and 499", x.go(0), 0);
        due("499 and 500", x.go(1), 1);
        due("500 and 501", x.go(2), 2);
        due("the least", x.go(-1), 1);
        x.text(0);
        x.set(2, 0, 9);
        x.set(0, 0, 0);
        due("270 by what is told nowhere", x.of(0, 7), 240);
        due("never", x.go(-1), -1);
    }

    /** Of twenty all are counted; of those that are gone none. */
    private static void goOfTwenty() {
        Counted x = told("frees 500;");
        for (int i = 0; i < 20; i++) x.put(0, 1, 0, i);
        for (int i = 0; i < 20; i++) x.set(3, i, 1);
        due("twenty", x.go(0), 20);
        x.act(0, 19, 0);
        due("nineteen", x.go(9), 19);
        x.act(0, 0, 0);
        due("eighteen", x.go(9), 18);
        Check.tell(x, 0, "frees 1000;");
        due("all get free", x.days(1), 18);
        due("none", x.go(9), 0);
        due("none", x.go(-1), -1);
    }

    /** "(no wasp: 0, 0)", "(one may be empty)". */
    private static void squiresOfFew() {
        Counted x = new Counted();
        due("no thing", x.squires(0), 0);
        due("no thing", x.squires(1), 0);
        for (int k = 0; k <= 5; k++) if (k != 4) x.put(k, 9, 0, k);
        due("no wasp", x.squires(0), 0);
        due("no wasp", x.squires(1), 0);
        for (int w : new int[] {LEAST, -1, 2, MOST}) due("another what " + w, x.squires(w), -1);
        x.put(4, 7, 0, 30);
        due("one", x.squires(0), 7);
        due("one", x.squires(1), 1);
        x.put(4, 7, 0, 20);
        due("two alike", x.squires(0), 0);
        due("two alike", x.squires(1), 1);
        for (int w : new int[] {LEAST, -1, 2, MOST}) due("another what " + w, x.squires(w), -1);
        x.put(4, 3, 0, 59);
        due("7 and 7, 3", x.squires(0), 3);
        due("the first alone", x.squires(1), 1);
        x.act(0, 5, 0);
        due("7 and 3", x.squires(0), 4);
        due("7 and 3", x.squires(1), 1);
    }

    private static void balance(int apart, int many, int... sizes) {
        Counted x = new Counted();
        for (int i = sizes.length - 1; i >= 0; i--) x.put(4, sizes[i], 0, 2 * i);
        due("how far apart", x.squires(0), apart);
        due("how many with the first", x.squires(1), many);
    }

    /** "how many are on the side of the wasp with the least INCH (of several ways the fewest)". */
    private static void squiresOfSeveralWays() {
        for (int size = 1; size <= 9; size++) balance(size, 1, size);
        balance(0, 1, 5, 2, 3);
        balance(0, 2, 2, 3, 5);
        balance(0, 2, 1, 3, 2, 2);
        balance(1, 1, 3, 1, 1);
        balance(1, 1, 2, 1, 2);
        balance(0, 2, 1, 1, 1, 1);
        balance(1, 2, 1, 1, 1, 1, 1);
        balance(0, 2, 3, 1, 1, 1, 2);
        balance(9, 5, 9, 9, 9, 9, 9, 9, 9, 9, 9, 9, 9);
        balance(0, 3, 4, 1, 1, 1, 1, 4);
        balance(3, 1, 9, 1, 1, 1, 1, 1, 1);
    }

    private static void game(int thing, int much, int... sizes) {
        Counted x = new Counted();
        for (int i = 0; i < sizes.length; i++) x.put(i % 6, sizes[i], 0, 7 * i);
        due("which", x.game(0), thing);
        due("how much", x.game(1), much);
    }

    /** "take 1 of one, or all of one, if it is 3 or less; who takes the last one of all wins". */
    private static void gameOfOne() {
        game(-1, -1);
        int[] much = {-1, 1, 2, 1, -1, 1, -1, 1, -1, 1};
        for (int size = 1; size <= 9; size++) {
            int[] one = {size};
            if (size == 3) game(0, 3, one);
            else game(much[size] < 0 ? -1 : 0, much[size], one);
        }
        Counted x = new Counted();
        x.put(0, 1, 0, 0);
        for (int w : new int[] {LEAST, -1, 2, MOST}) due("another what " + w, x.game(w), -1);
    }

    /** Whether who begins wins two heaps is played out here. */
    private static boolean wins(int a, int b) {
        return a > 0 && (!wins(a - 1, b) || a <= 3 && !wins(0, b)) || b > 0 && (!wins(a, b - 1) || b <= 3 && !wins(a, 0));
    }

    private static void gameOfTwo() {
        for (int a = 1; a <= 9; a++) {
            for (int b = 1; b <= 9; b++) {
                int first = !wins(a - 1, b) ? 1 : a <= 3 && !wins(0, b) ? a : -1;
                int second = !wins(a, b - 1) ? 1 : b <= 3 && !wins(a, 0) ? b : -1;
                game(first > 0 ? 0 : second > 0 ? 1 : -1, first > 0 ? first : second, a, b);
            }
        }
    }

    /** "(by number; of several the least INCH), how much (the fewest)": the number is not the place in the row. */
    private static void gameOfSeveral() {
        Counted x = new Counted();
        x.put(0, 4, 0, 50);
        x.put(0, 1, 0, 40);
        x.put(0, 1, 0, 30);
        x.put(0, 1, 0, 20);
        due("of four that win the least inch", x.game(0), 3);
        due("one", x.game(1), 1);
        x.act(0, 3, 0);
        due("1, 1 and 4 are lost", x.game(0), -1);
        x.act(0, 2, 0);
        due("the 1", x.game(0), 1);
        x.put(0, 2, 0, 10);
        due("of 2, 1 and 4 the 2", x.game(0), 4);
        due("one of it", x.game(1), 1);
        x.set(1, 4, 3);
        due("3, 1 and 4 are lost", x.game(1), -1);
        Counted y = new Counted();
        for (int i = 0; i < 20; i++) y.put(0, 9, 0, 59 - i);
        due("twenty alike are lost", y.game(0), -1);
        y.act(0, 0, 0);
        due("nineteen: the least inch", y.game(0), 19);
        due("one of it", y.game(1), 1);
    }
}
