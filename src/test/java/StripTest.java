/** Terms 1 and the calls that tell and ask of the strip: each bound is met from inside, at it, and from outside. */
public final class StripTest {
    private static final Check CHECK = new Check("StripTest");
    private static final int LEAST = Integer.MIN_VALUE;
    private static final int MOST = Integer.MAX_VALUE;

    private StripTest() {
    }

    private static void due(String call, long got, long want) {
        CHECK.due(call, got, want);
    }

    private static void due(String call, boolean got, boolean want) {
        CHECK.due(call, got, want);
    }

    public static void main(String[] args) {
        firstValues();
        firstValuesAgain();
        inchBounds();
        glueBounds();
        putBounds();
        setThingBounds();
        windAndHeatBounds();
        whatBounds();
        numbersAsTheyCome();
        numbersOfThingsThatAreGone();
        oneThingAnInch();
        twentyThings();
        nearAtTheEnds();
        nearAcrossTurns();
        tweezing();
        boiling();
        bookBounds();
        bookIsFull();
        stateIsTold();
        CHECK.finish();
    }

    /** "50 at first", "0 at first", "6 at first": of a new object and of a new THING. */
    private static void firstValues() {
        Counted x = new Counted();
        for (int i = 0; i < 60; i++) {
            due("new glue " + i, x.inch(i, 0), 50);
            due("new legs " + i, x.inch(i, 1), 0);
            due("no thing " + i, x.inch(i, 2), -1);
        }
        for (int w = 0; w <= 14; w++) due("new look " + w, x.look(w), 0);
        due("put", x.put(5, 9, 8, 59), 0);
        int[] want = {5, 9, 8, 59, 0, 6};
        for (int w = 0; w < 6; w++) due("new thing " + w, x.of(0, w), want[w]);
    }

    /** AGE and LIMBS are so at first of one that comes where another one was, too. */
    private static void firstValuesAgain() {
        Counted x = new Counted();
        Check.tell(x, 0, "sticks 1000 when kind=5;sticks 0;frees 0;slides 0;");
        Check.tell(x, 1, "on 3 fly 9 9 at 5;on 3 veil 8 7 at 5;");
        x.put(1, 9, 9, 5);
        x.set(3, 0, 1);
        x.days(3);
        x.act(0, 0, 0);
        due("put anew", x.put(2, 3, 4, 5), 1);
        int[] second = {2, 3, 4, 5, 0, 6};
        for (int w = 0; w < 6; w++) due("the second " + w, x.of(1, w), second[w]);
        x.set(3, 1, 0);
        x.act(0, 1, 0);
        x.days(1);
        int[] third = {5, 8, 7, 5, 1, 6};
        for (int w = 0; w < 6; w++) due("the third " + w, x.of(2, w), third[w]);
    }

    /** "INCHES 0 (at the tack) .. 59". */
    private static void inchBounds() {
        Counted x = new Counted();
        for (int i : new int[] {LEAST, -2, -1, 60, 61, MOST}) {
            due("set glue at " + i, x.set(0, i, 1), false);
            due("put at " + i, x.put(0, 1, 0, i), -1);
            due("boil at " + i, x.act(1, i, 1), false);
            for (int w = 0; w < 3; w++) due("inch " + i, x.inch(i, w), -2);
        }
        due("nothing came", x.look(1), 0);
        due("nothing to undo", x.look(14), 0);
        int number = 0;
        for (int i : new int[] {0, 1, 58, 59}) {
            due("set glue at " + i, x.set(0, i, i + 1), true);
            due("glue at " + i, x.inch(i, 0), i + 1);
            due("boil at " + i, x.act(1, i, 99 - i), true);
            due("boiled at " + i, x.inch(i, 0), 99 - i);
            due("put at " + i, x.put(0, 1, 0, i), number);
            due("number at " + i, x.inch(i, 2), number);
            due("at " + i, x.of(number, 3), i);
            number++;
        }
    }

    /** "GLUE 0 .. 99": to set it and to boil it. */
    private static void glueBounds() {
        Counted x = new Counted();
        for (int v : new int[] {LEAST, -1, 100, MOST}) {
            due("set glue " + v, x.set(0, 7, v), false);
            due("boil to " + v, x.act(1, 7, v), false);
            due("glue as it was", x.inch(7, 0), 50);
        }
        for (int v : new int[] {0, 1, 98, 99}) {
            due("set glue " + v, x.set(0, 7, v), true);
            due("glue", x.inch(7, 0), v);
            due("boil to " + v, x.act(1, 8, v), true);
            due("boiled", x.inch(8, 0), v);
        }
        due("beside it as it was", x.inch(6, 0), 50);
    }

    /** "KIND 0 .. 5", "SIZE 1 .. 9", "LIFE 0 .. 9", told by put; a wrong one leaves all as it was. */
    private static void putBounds() {
        Counted x = new Counted();
        for (int v : new int[] {LEAST, -1, 6, MOST}) due("kind " + v, x.put(v, 1, 0, 5), -1);
        for (int v : new int[] {LEAST, -1, 0, 10, MOST}) due("size " + v, x.put(0, v, 0, 5), -1);
        for (int v : new int[] {LEAST, -1, 10, MOST}) due("life " + v, x.put(0, 1, v, 5), -1);
        due("nothing lies there", x.inch(5, 2), -1);
        due("nothing came", x.look(1) + x.look(0) + x.look(8) + x.look(14), 0);
        for (int v = 0; v <= 5; v++) {
            due("kind " + v, x.put(v, 1, 0, v), v);
            due("is of kind " + v, x.of(v, 0), v);
        }
        for (int v = 1; v <= 9; v++) {
            due("size " + v, x.put(0, v, 0, 9 + v), 5 + v);
            due("is of size " + v, x.of(5 + v, 1), v);
        }
        int number = 15;
        for (int v : new int[] {0, 1, 8, 9}) {
            due("life " + v, x.put(0, 1, v, 30 + v), number);
            due("has life " + v, x.of(number, 2), v);
            number++;
        }
    }

    /** The same bounds told by set, and "LIMBS 0 .. 6". */
    private static void setThingBounds() {
        Counted x = new Counted();
        x.put(0, 5, 5, 5);
        int[] least = {0, 1, 0, 0};
        int[] most = {0, 9, 9, 6};
        int[] asked = {0, 1, 2, 5};
        for (int what = 1; what <= 3; what++) {
            int was = x.of(0, asked[what]);
            for (int v : new int[] {LEAST, least[what] - 1, most[what] + 1, MOST}) {
                due("set " + what + " to " + v, x.set(what, 0, v), false);
                due("as it was", x.of(0, asked[what]), was);
            }
            for (int v = least[what]; v <= most[what]; v++) {
                due("set " + what + " to " + v, x.set(what, 0, v), true);
                due("set " + what, x.of(0, asked[what]), v);
            }
            for (int t : new int[] {LEAST, -1, 1, MOST}) due("set of " + t, x.set(what, t, 5), false);
        }
        x.act(0, 0, 0);
        for (int what = 1; what <= 3; what++) due("set of one that is gone", x.set(what, 0, 5), false);
    }

    /** "WIND 0 .. 9", "HEAT 0 .. 9", "(who not asked)". */
    private static void windAndHeatBounds() {
        Counted x = new Counted();
        for (int what = 4; what <= 5; what++) {
            for (int v = 0; v <= 9; v++) {
                due("set " + what + " to " + v, x.set(what, v % 2 == 0 ? LEAST : MOST, v), true);
                due("is set", x.look(what), v);
                due("the other one", x.look(9 - what), what == 4 ? 0 : 9);
            }
            for (int v : new int[] {LEAST, -1, 10, MOST}) {
                due("set " + what + " to " + v, x.set(what, 0, v), false);
                due("as it was", x.look(what), 9);
            }
        }
    }

    /** "another what", of all calls of the strip that have one. */
    private static void whatBounds() {
        Counted x = new Counted();
        x.put(0, 1, 1, 1);
        for (int what : new int[] {LEAST, -1, 6, MOST}) due("set what " + what, x.set(what, 0, 1), false);
        for (int what : new int[] {LEAST, -1, 2, MOST}) due("act what " + what, x.act(what, 0, 1), false);
        for (int what : new int[] {LEAST, -1, 3, MOST}) due("inch what " + what, x.inch(1, what), -2);
        for (int what : new int[] {LEAST, -1, 10, MOST}) due("of what " + what, x.of(0, what), -1);
        for (int what : new int[] {LEAST, -1, 4, MOST}) due("book what " + what, x.book(0, what), -2);
        for (int what : new int[] {LEAST, -1, 15, MOST}) due("look what " + what, x.look(what), -1);
        for (int what : new int[] {LEAST, -1, 2, MOST}) due("fault what " + what, x.fault(what), -1);
        due("of the last what", x.of(0, 9), 0);
        due("book of the last what", x.book(0, 3), 1);
        due("look at the last what", x.look(14), 1);
        due("fault of the last what", x.fault(1), -1);
    }

    /** "THINGS by number as they come": what did not stick has none. */
    private static void numbersAsTheyCome() {
        Counted x = new Counted();
        due("first", x.put(0, 1, 0, 30), 0);
        due("second", x.put(0, 1, 0, 20), 1);
        due("refused", x.put(0, 1, 0, 20), -1);
        Check.tell(x, 0, "sticks 1000 when kind=1;sticks 0;frees 0;slides 0;");
        Check.tell(x, 1, "on 0 fly 1 1 at 5;on 0 date 2 1 at 4;on 0 date 3 1 at 3;");
        x.days(1);
        due("the third by its inch", x.inch(4, 2), 2);
        due("the fourth by its inch", x.inch(3, 2), 3);
        due("the third's size", x.of(2, 1), 2);
        due("came", x.look(1), 4);
        due("the fifth", x.put(0, 1, 0, 10), 4);
    }

    /** A number is of one THING alone; of one that is not on it, of() tells NONE. */
    private static void numbersOfThingsThatAreGone() {
        Counted x = new Counted();
        x.put(1, 1, 0, 59);
        x.put(1, 1, 0, 10);
        x.put(1, 1, 0, 20);
        x.set(3, 1, 1);
        x.act(0, 2, 0);
        Check.tell(x, 0, "frees 1000 when limbs<2;frees 0;slides 1 when inch=59;slides 0;");
        due("one falls off, one gets free", x.days(1), 2);
        for (int t = -1; t < 5; t++) for (int w = 0; w < 10; w++) due("of " + t, x.of(t, w), -1);
        due("leans", x.leans(0), -1000);
        due("nothing is on it", x.look(0), 0);
        due("the next number", x.put(1, 1, 0, 10), 3);
        due("is there", x.of(3, 3), 10);
        due("others are not", x.of(1, 3), -1);
        for (int t : new int[] {LEAST, -1, 4, MOST}) due("of " + t, x.of(t, 0), -1);
    }

    /** "one INCH has one THING at most": not taken. */
    private static void oneThingAnInch() {
        Counted x = new Counted();
        due("put", x.put(0, 2, 3, 0), 0);
        due("put there again", x.put(1, 4, 5, 0), -1);
        due("it is the first one's", x.inch(0, 2), 0);
        due("came", x.look(1), 1);
        due("one line", x.look(8), 1);
        due("one to undo", x.look(14), 1);
        x.act(0, 0, 0);
        due("not taken any more", x.put(1, 4, 5, 0), 1);
        due("it is the second one's", x.inch(0, 2), 1);
    }

    /** "20 lie on it at most", "fewer than 20". */
    private static void twentyThings() {
        Counted x = new Counted();
        for (int i = 0; i < 19; i++) due("put", x.put(0, 1, 0, i), i);
        due("nineteen", x.look(0), 19);
        due("the twentieth", x.put(0, 1, 0, 19), 19);
        due("the 21st", x.put(0, 1, 0, 20), -1);
        due("the 21st at a taken inch", x.put(0, 1, 0, 0), -1);
        due("twenty", x.look(0), 20);
        due("came", x.look(1), 20);
        due("lines", x.look(8), 20);
        due("not there", x.inch(20, 2), -1);
        due("tweeze", x.act(0, 7, 0), true);
        due("the 21st now", x.put(0, 1, 0, 20), 20);
        due("the 22nd", x.put(0, 1, 0, 7), -1);
        for (int i = 0; i < 20; i++) due("each where it was put", x.of(i, 3), i == 7 ? -1 : i);
    }

    /** "(i - 1, i + 1, i - 10, i + 10)" at the ends of the strip; "(others)". */
    private static void nearAtTheEnds() {
        Counted x = new Counted();
        x.put(0, 1, 0, 0);
        x.put(0, 1, 0, 59);
        due("the first alone", x.of(0, 9), 0);
        due("the last alone", x.of(1, 9), 0);
        for (int i : new int[] {2, 9, 11, 20, 50, 48, 57, 40}) x.put(0, 1, 0, i);
        due("none is near the first", x.of(0, 9), 0);
        due("none is near the last", x.of(1, 9), 0);
        x.put(0, 1, 0, 1);
        due("beside the first", x.of(0, 9), 1);
        x.put(0, 1, 0, 10);
        due("across from the first", x.of(0, 9), 2);
        x.put(0, 1, 0, 58);
        due("beside the last", x.of(1, 9), 1);
        x.put(0, 1, 0, 49);
        due("across from the last", x.of(1, 9), 2);
    }

    /** Inches 9 and 10 are side by side, though a turn ends there. */
    private static void nearAcrossTurns() {
        Counted x = new Counted();
        x.put(0, 1, 0, 25);
        int[] all = {13, 14, 16, 23, 24, 26, 27, 34, 35, 36, 15};
        int[] want = {0, 0, 0, 0, 1, 2, 2, 2, 3, 3, 4};
        for (int i = 0; i < all.length; i++) {
            x.put(0, 1, 0, all[i]);
            due("near 25 with " + all[i], x.of(0, 9), want[i]);
        }
        Counted y = new Counted();
        y.put(0, 1, 0, 9);
        y.put(0, 1, 0, 10);
        due("9 beside 10", y.of(0, 9), 1);
        due("10 beside 9", y.of(1, 9), 1);
        y.put(0, 1, 0, 19);
        y.put(0, 1, 0, 20);
        due("19 across from 9", y.of(0, 9), 2);
        due("20 across from 10", y.of(1, 9), 2);
        due("19 by 20 and 9", y.of(2, 9), 2);
    }

    /** "to TWEEZE one off (READ one more; it is gone)". */
    private static void tweezing() {
        Counted x = new Counted();
        due("none is on it", x.act(0, 0, 0), false);
        x.put(0, 1, 0, 6);
        x.put(0, 1, 0, 8);
        for (int t : new int[] {LEAST, -1, 2, MOST}) due("tweeze " + t, x.act(0, t, 0), false);
        due("none was read", x.look(3), 0);
        due("two to undo", x.look(14), 2);
        due("tweeze, v not asked", x.act(0, 0, MOST), true);
        due("again", x.act(0, 0, 0), false);
        due("read", x.look(3), 1);
        due("one is on it", x.look(0), 1);
        due("came as before", x.look(1), 2);
        due("none got free", x.look(2), 0);
        due("no leg is left", x.look(6), 0);
        due("line: what", x.book(2, 1), 5);
        due("line: which", x.book(2, 2), 0);
        due("line: how much", x.book(2, 3), 6);
        due("glue as it was", x.inch(6, 0), 50);
        due("the other one", x.act(0, 1, LEAST), true);
        due("line: which", x.book(3, 2), 1);
        due("line: how much", x.book(3, 3), 8);
        due("read", x.look(3), 2);
        due("state as it was", x.look(9), 0);
    }

    /** "to BOIL an INCH": its GLUE alone, with a THING on it or none. */
    private static void boiling() {
        Counted x = new Counted();
        x.put(0, 1, 0, 6);
        due("boil under a thing", x.act(1, 6, 99), true);
        due("boil", x.act(1, 7, 0), true);
        due("boiled", x.inch(6, 0), 99);
        due("boiled", x.inch(7, 0), 0);
        due("beside", x.inch(8, 0), 50);
        due("no line of it", x.look(8), 1);
        due("to undo", x.look(14), 3);
        due("the thing lies", x.inch(6, 2), 0);
    }

    /** "NONE - 1 if there is none such": the first and the last line, and those beyond. */
    private static void bookBounds() {
        Counted x = new Counted();
        for (int i : new int[] {LEAST, -1, 0, 1, 149, 150, MOST}) due("empty book " + i, x.book(i, 0), -2);
        x.days(2);
        x.put(3, 1, 0, 44);
        x.days(1);
        x.put(3, 1, 0, 45);
        int[] first = {2, 0, 0, 44};
        int[] second = {3, 0, 1, 45};
        for (int w = 0; w < 4; w++) {
            due("first line " + w, x.book(0, w), first[w]);
            due("second line " + w, x.book(1, w), second[w]);
            for (int i : new int[] {LEAST, -1, 2, MOST}) due("no line " + i, x.book(i, w), -2);
        }
    }

    /** "THE BOOK (150 lines; no more then)": what happens goes on happening. */
    private static void bookIsFull() {
        Counted x = new Counted();
        for (int i = 0; i < 74; i++) {
            x.put(0, 1, 0, 3);
            x.act(0, i, 0);
        }
        x.put(0, 1, 0, 3);
        due("149 lines", x.look(8), 149);
        due("no line 149", x.book(149, 1), -2);
        due("the 150th thing", x.act(0, 74, 0), true);
        due("150 lines", x.look(8), 150);
        due("line 149", x.book(149, 1), 5);
        due("put", x.put(0, 1, 0, 4), 75);
        due("tweeze", x.act(0, 75, 0), true);
        Check.tell(x, 0, "sticks 1000 when inch=7;sticks 0;frees 1000;slides 0;");
        Check.tell(x, 1, "on 0 fly 1 0 at 7;on 0 fly 1 0 at 8;");
        due("a day", x.days(1), 0);
        due("still 150", x.look(8), 150);
        due("no line 150", x.book(150, 1), -2);
        due("the last line as it was", x.book(149, 2), 74);
        due("came", x.look(1), 77);
        due("read", x.look(3), 76);
        due("a leg", x.inch(7, 1), 1);
        due("the first line as it was", x.book(0, 1) + x.book(0, 2), 0);
    }

    /** "STATE is told: what it was", an int of any kind. */
    private static void stateIsTold() {
        Counted x = new Counted();
        int was = 0;
        for (int v : new int[] {1, -1, MOST, LEAST, 0, 7}) {
            due("state was", x.state(v), was);
            due("state is", x.look(9), v);
            was = v;
        }
    }
}
