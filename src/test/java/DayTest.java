/** Terms 3 and promise 6: what comes up, what a DAY does in which order, and where it ends. */
public final class DayTest {
    private static final Check CHECK = new Check("DayTest");
    private static final int LEAST = Integer.MIN_VALUE;
    private static final int MOST = Integer.MAX_VALUE;
    /** STATE after one draw, two and three from 0; the draws of 1000 are 563, 577 and 494. */
    private static final int ONE_DRAW = 1013904223;
    private static final int TWO_DRAWS = 1196435762;
    private static final int THREE_DRAWS = -775096599;

    private DayTest() {
    }

    private static void due(String call, long got, long want) {
        CHECK.due(call, got, want);
    }

    private static void due(String call, boolean got, boolean want) {
        CHECK.due(call, got, want);
    }

    public static void main(String[] args) {
        numberOfDays();
        dayHasAnEnd();
        draws();
        belowItSticks();
        belowItLosesALeg();
        noDrawAtZero();
        takenInch();
        twentyThings();
        roomWithinADay();
        glueLessSize();
        whatDidNotStick();
        legsAndLife();
        getsFree();
        byNumber();
        linesOfItsDay();
        skyLineByLine();
        dryAndBoil();
        skyAheadOfFlight();
        flightAheadOfStruggle();
        struggleAheadOfSlide();
        slideAheadOfAge();
        slideSteps();
        slideIsStopped();
        fallsOff();
        greatestInchFirst();
        allTwenty();
        age();
        heatDries();
        howManyGotFree();
        linesOfTheBook();
        CHECK.finish();
    }

    private static Counted quiet(String law) {
        Counted x = new Counted();
        due("law " + law, Check.tell(x, 0, law) > 0, true);
        return x;
    }

    private static Counted still() {
        return quiet("sticks 1000;frees 0;slides 0;");
    }

    private static void flight(Counted x, String text) {
        due("flight " + text, Check.tell(x, 1, text) >= 0, true);
    }

    private static void sky(Counted x, String text) {
        due("sky " + text, Check.tell(x, 2, text) >= 0, true);
    }

    /** "DAYS go by (1 .. 60) ... NONE, and nothing is done, if one can't be". */
    private static void numberOfDays() {
        for (int n : new int[] {LEAST, -1, 0, 61, 62, MOST}) {
            Counted x = new Counted();
            x.put(0, 1, 0, 0);
            due("days " + n, x.days(n), -1);
            due("day", x.look(7), 0);
            due("state", x.look(9), 0);
            due("age", x.of(0, 4), 0);
            due("to undo", x.look(14), 1);
        }
        for (int n : new int[] {1, 2, 59, 60}) {
            Counted x = new Counted();
            x.put(0, 1, 0, 0);
            due("days " + n, x.days(n), 0);
            due("day", x.look(7), n);
            due("age", x.of(0, 4), n);
        }
    }

    /** "DAY 0 .. 9999": "NONE, and nothing is done, if ... DAY would be above 9999". */
    private static void dayHasAnEnd() {
        Counted x = still();
        for (int i = 0; i < 166; i++) due("sixty", x.days(60), 0);
        x.put(0, 1, 0, 0);
        due("10020", x.days(60), -1);
        due("10000", x.days(40), -1);
        due("as it was", x.look(7), 9960);
        due("nothing was done", x.of(0, 4), 0);
        due("9998", x.days(38), 0);
        due("10000", x.days(2), -1);
        due("9998", x.look(7), 9998);
        due("9999", x.days(1), 0);
        due("9999", x.look(7), 9999);
        for (int n : new int[] {1, 2, 60}) due("past it", x.days(n), -1);
        due("9999", x.look(7), 9999);
        due("age", x.of(0, 4), 39);
        due("undo", x.undo(), true);
        due("9998", x.look(7), 9998);
        due("9999", x.days(1), 0);
        x.put(0, 1, 0, 1);
        due("the last line's day", x.book(1, 0), 9999);
    }

    /** Two things struggle: two draws, whose numbers are read from what they do. */
    private static void draws() {
        int[][] rows = {{0, ONE_DRAW, 563}, {ONE_DRAW, TWO_DRAWS, 577}, {TWO_DRAWS, THREE_DRAWS, 494},
            {1000, -1616538073, 614}, {MOST, -1135243950, 669}, {-1, 1012239698, 61}, {LEAST, -1133579425, 171},
            {457, 1774592148, 0}, {1676, -491319173, 0}, {1188, -1303607373, 999}};
        for (int[] r : rows) {
            drawn(r[0], r[1], r[2], 0);
            drawn(r[0], r[1], r[2] + 1, 1);
        }
    }

    private static void drawn(int state, int then, int chance, int want) {
        Counted x = quiet("sticks " + chance + ";frees 0;slides 0;");
        flight(x, "on 0 fly 3 0 at 5;");
        x.state(state);
        x.days(1);
        due("sticks " + chance + " in state " + state, x.look(1), want);
        due("state after " + state, x.look(9), then);
        Counted y = quiet("sticks 0;frees " + chance + ";slides 0;");
        y.put(0, 3, 0, 5);
        y.state(state);
        y.days(1);
        due("frees " + chance + " in state " + state, y.look(6), want);
        due("state after " + state, y.look(9), chance == 0 ? state : then);
    }

    /** "sticks is asked, a DRAW of 1000: below it it sticks": a draw also for 0 and for 1000. */
    private static void belowItSticks() {
        for (int chance : new int[] {0, 1, 562, 563, 564, 999, 1000}) {
            Counted x = quiet("sticks " + chance + ";frees 0;slides 0;");
            flight(x, "on 0 fly 3 0 at 5;");
            x.days(1);
            boolean sticks = chance > 563;
            due("sticks " + chance, x.inch(5, 2), sticks ? 0 : -1);
            due("came", x.look(1), sticks ? 1 : 0);
            due("glue", x.inch(5, 0), sticks ? 47 : 50);
            due("a draw", x.look(9), ONE_DRAW);
            due("a line", x.look(8), 1);
            due("line: day", x.book(0, 0), 0);
            due("line: what", x.book(0, 1), sticks ? 0 : 1);
            due("line: which", x.book(0, 2), sticks ? 0 : -1);
            due("line: how much", x.book(0, 3), 5);
        }
    }

    /** "frees is asked, is it above 0, a DRAW of 1000: below it". */
    private static void belowItLosesALeg() {
        for (int chance : new int[] {1, 562, 563, 564, 999, 1000}) {
            Counted x = quiet("frees " + chance + ";slides 0;");
            x.put(0, 3, 5, 5);
            due("none gets free", x.days(1), 0);
            int lost = chance > 563 ? 1 : 0;
            due("frees " + chance, x.of(0, 5), 6 - lost);
            due("life", x.of(0, 2), 5 - lost);
            due("legs of its inch", x.inch(5, 1), lost);
            due("lines", x.look(8), 1 + lost);
            due("a draw", x.look(9), ONE_DRAW);
        }
    }

    private static void noDrawAtZero() {
        Counted x = quiet("frees 0;slides 0;");
        x.put(0, 3, 5, 5);
        x.days(60);
        due("no draw", x.look(9), 0);
        due("no line", x.look(8), 1);
        due("six limbs", x.of(0, 5), 6);
        Counted y = quiet("frees 5-9;slides 0;");
        y.put(0, 3, 5, 5);
        y.days(1);
        due("below 0 is 0", y.look(9), 0);
        Counted z = quiet("frees 1;slides 0;");
        z.put(0, 3, 5, 5);
        z.days(1);
        due("above 0 draws", z.look(9), ONE_DRAW);
    }

    /** "is it taken already ... it is gone (nothing more)": no draw, no line, no CAME, no GLUE less. */
    private static void takenInch() {
        Counted x = still();
        x.put(0, 1, 0, 5);
        flight(x, "on 0 wasp 3 0 at 5;on 0 date 3 0 at 6;on 0 word 3 0 at 6;");
        due("a day", x.days(1), 0);
        due("one draw", x.look(9), ONE_DRAW);
        due("came", x.look(1), 2);
        due("lines", x.look(8), 2);
        due("it is the first one's", x.of(0, 0), 0);
        due("glue as it was", x.inch(5, 0), 50);
        due("glue once less", x.inch(6, 0), 47);
        due("the first of that day", x.of(1, 0), 1);
        due("none was freed", x.look(2), 0);
    }

    /** "or are there 20 THINGS: it is gone (nothing more)": the twentieth sticks, the 21st does not. */
    private static void twentyThings() {
        Counted x = still();
        for (int i = 0; i < 18; i++) x.put(0, 1, 0, 2 * i);
        flight(x, "on 0 fly 3 0 at 50;on 0 fly 3 0 at 52;on 0 fly 3 0 at 54;on 1 fly 3 0 at 54;on 2 fly 3 0 at 54;");
        x.days(1);
        due("twenty", x.look(0), 20);
        due("came", x.look(1), 20);
        due("the twentieth", x.inch(52, 2), 19);
        due("not the 21st", x.inch(54, 2), -1);
        due("its glue", x.inch(54, 0), 50);
        due("two draws", x.look(9), TWO_DRAWS);
        due("lines", x.look(8), 20);
        x.days(1);
        due("two draws", x.look(9), TWO_DRAWS);
        due("lines", x.look(8), 20);
        x.act(0, 3, 0);
        x.days(1);
        due("there is room", x.inch(54, 2), 20);
        due("three draws", x.look(9), THREE_DRAWS);
    }

    /** What gets free on a day leaves its room to the next day's: (b) is ahead of (c). */
    private static void roomWithinADay() {
        Counted x = quiet("sticks 1000;frees 1000 when limbs<2;frees 0;slides 0;");
        for (int i = 0; i < 20; i++) x.put(0, 1, 0, i);
        x.set(3, 0, 1);
        flight(x, "on 0 fly 1 0 at 30;on 0 fly 1 0 at 0;on 1 fly 1 0 at 30;on 1 fly 1 0 at 31;");
        due("one got free", x.days(1), 1);
        due("none came up", x.look(1), 20);
        due("nineteen", x.look(0), 19);
        x.days(1);
        due("one came up", x.look(1), 21);
        due("at 30", x.inch(30, 2), 20);
        due("not at 31", x.inch(31, 2), -1);
    }

    /** "GLUE SIZE less (0 at least)". */
    private static void glueLessSize() {
        int[][] rows = {{0, 1, 0}, {1, 1, 0}, {2, 1, 1}, {4, 5, 0}, {5, 5, 0}, {6, 5, 1}, {8, 9, 0}, {9, 9, 0},
            {10, 9, 1}, {99, 9, 90}};
        for (int[] r : rows) {
            Counted x = still();
            x.set(0, 59, r[0]);
            flight(x, "on 0 veil " + r[1] + " 0 at 59;");
            x.days(1);
            due("glue " + r[0] + " less " + r[1], x.inch(59, 0), r[2]);
            due("beside it", x.inch(58, 0), 50);
        }
    }

    private static void whatDidNotStick() {
        Counted x = quiet("sticks 0;frees 1000;slides 9;");
        x.set(5, 0, 0);
        flight(x, "on 0 fly 9 9 at 0;on 0 fly 9 9 at 0;");
        due("none got free", x.days(1), 0);
        due("two draws, and none by frees", x.look(9), TWO_DRAWS);
        due("none came", x.look(1) + x.look(0) + x.look(2) + x.look(6), 0);
        due("glue as it was", x.inch(0, 0), 50);
        due("two lines", x.look(8), 2);
        for (int i = 0; i < 2; i++) {
            due("gone again", x.book(i, 1), 1);
            due("which: none", x.book(i, 2), -1);
            due("how much: the inch", x.book(i, 3), 0);
        }
    }

    /** "has it LIMBS above 1, LIMBS one less, LEGS of its INCH one more, LIFE one less (0 at least)". */
    private static void legsAndLife() {
        for (int limbs = 2; limbs <= 6; limbs++) {
            for (int life = 0; life <= 9; life++) {
                Counted x = quiet("frees 1000;slides 0;");
                x.put(0, 1, life, 33);
                x.set(3, 0, limbs);
                due("none got free", x.days(1), 0);
                due("limbs from " + limbs, x.of(0, 5), limbs - 1);
                due("life from " + life, x.of(0, 2), Math.max(0, life - 1));
                due("legs", x.inch(33, 1), 1);
                due("freed", x.look(2), 0);
                due("line: what", x.book(1, 1), 2);
                due("line: which", x.book(1, 2), 0);
                due("line: how much", x.book(1, 3), 33);
            }
        }
    }

    /** "else it is free: FREED one more, gone": with one LIMB or none; no leg is left. */
    private static void getsFree() {
        for (int limbs = 0; limbs <= 1; limbs++) {
            Counted x = quiet("frees 1000;slides 0;");
            x.put(0, 1, 5, 30);
            x.put(0, 1, 5, 33);
            x.set(3, 1, limbs);
            due("one got free", x.days(1), 1);
            due("freed", x.look(2), 1);
            due("gone", x.inch(33, 2), -1);
            due("gone", x.of(1, 0), -1);
            due("no leg there", x.inch(33, 1), 0);
            due("one lies", x.look(0), 1);
            due("none was read", x.look(3), 0);
            due("line: what", x.book(3, 1), 3);
            due("line: which", x.book(3, 2), 1);
            due("line: how much", x.book(3, 3), 33);
        }
    }

    /** "THING by THING (by number)": the first draw is the least number's, not the least inch's. */
    private static void byNumber() {
        Counted x = quiet("frees 570;slides 0;");
        x.put(0, 1, 9, 50);
        x.put(0, 1, 9, 10);
        x.put(0, 1, 9, 30);
        x.days(1);
        due("563: a leg", x.of(0, 5), 5);
        due("577: none", x.of(1, 5), 6);
        due("494: a leg", x.of(2, 5), 5);
        Counted y = quiet("frees 570;slides 0;");
        for (int i = 0; i < 4; i++) y.put(0, 1, 9, 50 - 10 * i);
        y.act(0, 0, 0);
        y.days(1);
        due("563: a leg", y.of(1, 5), 5);
        due("577: none", y.of(2, 5), 6);
        due("494: a leg", y.of(3, 5), 5);
        Counted z = quiet("frees 600;slides 0;");
        for (int i = 0; i < 3; i++) z.put(0, 1, 9, 50 - 10 * i);
        z.set(3, 0, 1);
        z.set(3, 1, 1);
        due("two get free, none is left out", z.days(1), 2);
        due("494: a leg", z.of(2, 5), 5);
        due("three draws", z.look(9), THREE_DRAWS);
    }

    /** "Line by line of SKY for it", "of FLIGHT for it": DAY 0 .. 999, on that DAY alone. */
    private static void linesOfItsDay() {
        Counted x = still();
        flight(x, "on 999 fly 1 0 at 9;on 0 fly 1 0 at 0;on 998 fly 1 0 at 8;on 1 fly 1 0 at 1;");
        sky(x, "on 999 wind 9;on 0 wind 1;on 998 wind 8;on 1 wind 2;");
        int[] days = {0, 1, 1, 996, 1, 1, 1};
        int[] came = {0, 1, 2, 2, 3, 4, 4};
        int[] wind = {0, 1, 2, 2, 8, 9, 9};
        int[] day = {0, 1, 2, 998, 999, 1000, 1001};
        for (int i = 0; i < days.length; i++) {
            for (int left = days[i]; left > 0; left -= 60) x.days(Math.min(60, left));
            due("day", x.look(7), day[i]);
            due("came by day " + day[i], x.look(1), came[i]);
            due("wind by day " + day[i], x.look(4), wind[i]);
        }
        int[] at = {0, 1, 8, 9};
        for (int i = 0; i < 4; i++) due("in the order of days", x.of(i, 3), at[i]);
        int[] noted = {0, 1, 998, 999};
        for (int i = 0; i < 4; i++) due("the line's day", x.book(i, 0), noted[i]);
        Counted y = still();
        y.days(1);
        flight(y, "on 0 fly 1 0 at 0;");
        y.days(2);
        due("a day that is over", y.look(1), 0);
    }

    /** Of several lines for a day each is done, the later one last. */
    private static void skyLineByLine() {
        Counted x = still();
        sky(x, "on 0 wind 9;on 0 wind 3;on 0 heat 4;on 0 heat 2;on 0 boil 5 99;on 0 dry 10;on 0 boil 6 1;on 0 dry 2;"
            + "on 0 boil 59 0;on 0 boil 0 99;");
        x.days(1);
        due("wind", x.look(4), 3);
        due("heat", x.look(5), 2);
        due("5: 99 less 12", x.inch(5, 0), 87);
        due("6: 1 less 2", x.inch(6, 0), 0);
        due("59", x.inch(59, 0), 0);
        due("0", x.inch(0, 0), 99);
        due("7: 50 less 12", x.inch(7, 0), 38);
        Counted y = still();
        y.set(4, 0, 9);
        y.set(5, 0, 4);
        sky(y, "on 0 wind 0;on 0 heat 0;");
        y.days(1);
        due("wind 0", y.look(4), 0);
        due("heat 0", y.look(5), 0);
        due("glue as it was", y.inch(3, 0), 50);
        due("no draw", y.look(9), 0);
        due("no line", y.look(8), 0);
    }

    /** "dry: GLUE of all INCHES N less (0 at least)", under THINGS too. */
    private static void dryAndBoil() {
        for (int n : new int[] {1, 49, 50, 51, 99}) {
            Counted x = still();
            x.put(0, 1, 0, 4);
            x.set(0, 59, 99);
            x.set(0, 0, 0);
            sky(x, "on 0 dry " + n + ";");
            x.days(1);
            due("dry " + n + " of 50", x.inch(30, 0), Math.max(0, 50 - n));
            due("dry " + n + " of 50 under a thing", x.inch(4, 0), Math.max(0, 50 - n));
            due("dry " + n + " of 99", x.inch(59, 0), 99 - n);
            due("dry " + n + " of 0", x.inch(0, 0), 0);
            x.set(0, 0, 99);
            sky(x, "on 1 dry " + n + ";");
            x.days(1);
            due("dry " + n + " of 99", x.inch(0, 0), 99 - n);
        }
    }

    /** (a) ahead of (b): the wind and the glue of that day tell whether it sticks. */
    private static void skyAheadOfFlight() {
        Counted x = new Counted();
        flight(x, "on 0 fly 1 0 at 5;on 0 fly 1 0 at 6;");
        sky(x, "on 0 boil 5 57;on 0 boil 6 57;");
        x.days(1);
        due("570 is above 563", x.inch(5, 2), 0);
        due("570 is not above 577", x.inch(6, 2), -1);
        Counted y = new Counted();
        y.set(0, 5, 57);
        flight(y, "on 0 fly 1 0 at 5;");
        sky(y, "on 0 wind 1;");
        y.days(1);
        due("520 is not above 563", y.inch(5, 2), -1);
        Counted z = new Counted();
        z.set(0, 5, 70);
        flight(z, "on 0 fly 9 0 at 5;");
        sky(z, "on 0 dry 9;");
        z.days(1);
        due("610 is above 563", z.inch(5, 2), 0);
        due("61 less 9", z.inch(5, 0), 52);
    }

    /** (b) ahead of (c): what came up today struggles today; and so the lines of THE BOOK. */
    private static void flightAheadOfStruggle() {
        Counted x = quiet("sticks 1000;frees 1000;slides 0;");
        x.put(0, 1, 9, 40);
        flight(x, "on 0 fly 1 3 at 41;");
        x.days(1);
        due("a leg", x.of(1, 5), 5);
        due("life", x.of(1, 2), 2);
        int[] what = {0, 0, 2, 2};
        int[] which = {0, 1, 0, 1};
        for (int i = 0; i < 4; i++) {
            due("line " + i + ": what", x.book(i, 1), what[i]);
            due("line " + i + ": which", x.book(i, 2), which[i]);
        }
        Counted y = quiet("sticks 1000;frees 1000*near;slides 0;");
        y.put(0, 1, 9, 40);
        flight(y, "on 0 fly 1 3 at 41;");
        y.days(1);
        due("what came up is near it", y.of(0, 5), 5);
    }

    /** (c) ahead of (d): what got free today stops nobody, and what lost a leg slides. */
    private static void struggleAheadOfSlide() {
        Counted x = quiet("frees 1000 when limbs<2;frees 1000 when inch=20;frees 0;slides 2 when limbs=5;slides 1;");
        x.put(0, 1, 9, 10);
        x.put(0, 1, 9, 11);
        x.set(3, 1, 1);
        x.put(0, 1, 9, 20);
        due("one got free", x.days(1), 1);
        due("10 slides", x.of(0, 3), 11);
        due("by five limbs", x.of(2, 3), 22);
        due("the leg stays", x.inch(20, 1), 1);
        due("the leg stays", x.inch(22, 1), 0);
    }

    /** (d) ahead of (e): AGE is what it was as slides is asked, and GLUE dries where nobody lies then. */
    private static void slideAheadOfAge() {
        Counted x = quiet("frees 0;slides 1 when age=0 and day=0 and glue=50;slides 0;");
        x.set(5, 0, 5);
        x.put(0, 1, 9, 10);
        x.days(1);
        due("slides", x.of(0, 3), 11);
        due("10 dries", x.inch(10, 0), 49);
        due("11 does not", x.inch(11, 0), 50);
        due("age", x.of(0, 4), 1);
        x.days(1);
        due("not again", x.of(0, 3), 11);
        due("10 dries", x.inch(10, 0), 48);
        due("11 does not", x.inch(11, 0), 50);
    }

    /** "inch by inch so often it goes to the next one (i + 1)": 0 .. 9. */
    private static void slideSteps() {
        for (int steps = 0; steps <= 9; steps++) {
            Counted x = quiet("frees 0;slides " + steps + ";");
            x.put(2, 1, 9, 0);
            x.put(2, 1, 9, 30);
            x.days(1);
            due("from 0 by " + steps, x.of(0, 3), steps);
            due("from 30 by " + steps, x.of(1, 3), 30 + steps);
            due("there", x.inch(30 + steps, 2), 1);
            due("not there", x.inch(29 + steps, 2), -1);
            due("no draw", x.look(9), 0);
            due("no line", x.look(8), 2);
        }
    }

    /** "if that is not taken": beside it, on its way, and at 59. */
    private static void slideIsStopped() {
        for (int gap = 1; gap <= 11; gap++) {
            Counted x = quiet("frees 0;slides 9 when kind=0;slides 0;");
            x.put(1, 1, 0, 20 + gap);
            x.put(0, 1, 0, 20);
            x.days(1);
            due("gap " + gap, x.of(1, 3), 20 + Math.min(9, gap - 1));
            due("the other one stays", x.of(0, 3), 20 + gap);
        }
        Counted y = quiet("frees 0;slides 9 when kind=0;slides 0;");
        y.put(1, 1, 0, 59);
        y.put(0, 1, 0, 55);
        due("none falls", y.days(1), 0);
        due("stopped at 58", y.of(1, 3), 58);
        y.act(0, 0, 0);
        due("one falls", y.days(1), 1);
    }

    /** "from 59 it falls off (FREED one more, gone)"; in THE BOOK "4: 59". */
    private static void fallsOff() {
        for (int from = 50; from <= 59; from++) {
            for (int steps = 0; steps <= 9; steps++) {
                Counted x = quiet("frees 0;slides " + steps + ";");
                x.put(0, 1, 0, from);
                boolean falls = from + steps > 59;
                due("from " + from + " by " + steps, x.days(1), falls ? 1 : 0);
                due("freed", x.look(2), falls ? 1 : 0);
                due("at", x.of(0, 3), falls ? -1 : from + steps);
                due("at 59", x.inch(59, 2), !falls && from + steps == 59 ? 0 : -1);
                due("line: what", x.book(1, 1), falls ? 4 : -2);
                due("line: which", x.book(1, 2), falls ? 0 : -2);
                due("line: how much", x.book(1, 3), falls ? 59 : -2);
                due("things", x.look(0), falls ? 0 : 1);
            }
        }
    }

    /** "THING by THING with the greatest INCH first": whatever their numbers, and each as it lies then. */
    private static void greatestInchFirst() {
        for (int turned = 0; turned < 2; turned++) {
            Counted x = quiet("frees 0;slides 2;");
            int[] at = {57, 58, 59, 56};
            for (int i = 0; i < 4; i++) x.put(0, 1, 0, at[turned == 0 ? i : 3 - i]);
            due("two fall off", x.days(1), 2);
            due("the greater one first", x.book(4, 2), turned == 0 ? 2 : 1);
            due("then the next", x.book(5, 2), turned == 0 ? 1 : 2);
            due("57", x.inch(59, 2), turned == 0 ? 0 : 3);
            due("56", x.inch(58, 2), turned == 0 ? 3 : 0);
        }
        Counted y = quiet("frees 0;slides near;");
        y.put(0, 1, 0, 10);
        y.put(0, 1, 0, 11);
        y.put(0, 1, 0, 12);
        y.days(1);
        due("12 has one near: 13", y.of(2, 3), 13);
        due("11 has one near then: 12", y.of(1, 3), 12);
        due("10 has none near then", y.of(0, 3), 10);
    }

    /** Each of the 20 that can lie on it has its part of a day. */
    private static void allTwenty() {
        Counted x = quiet("frees 1000 when age=0;frees 1000 when inch>36;frees 0;slides 1 when age=1;slides 0;");
        for (int i = 0; i < 20; i++) x.put(0, 1, 9, 2 * i);
        x.days(1);
        due("twenty legs", x.look(6), 20);
        for (int i = 0; i < 20; i++) {
            due("a leg of each", x.of(i, 5), 5);
            due("the leg of each", x.inch(2 * i, 1), 1);
            due("each is older", x.of(i, 4), 1);
        }
        x.set(3, 19, 1);
        due("the last one gets free", x.days(1), 1);
        for (int i = 0; i < 19; i++) due("each other one slides", x.of(i, 3), 2 * i + 1);
        Counted y = quiet("frees 1000;slides 0;");
        for (int i = 0; i < 20; i++) y.put(0, 1, 9, 2 * i);
        for (int i = 0; i < 20; i++) y.set(3, i, 1);
        due("all get free", y.days(1), 20);
        due("none is left", y.look(0), 0);
    }

    /** "AGE of each one more (999 at most)". */
    private static void age() {
        Counted x = still();
        x.put(0, 1, 0, 7);
        for (int i = 0; i < 16; i++) x.days(60);
        x.put(0, 1, 0, 8);
        x.days(37);
        due("997", x.of(0, 4), 997);
        x.days(1);
        due("998", x.of(0, 4), 998);
        x.days(1);
        due("999", x.of(0, 4), 999);
        x.days(1);
        due("999 at most", x.of(0, 4), 999);
        x.days(60);
        due("999 at most", x.of(0, 4), 999);
        due("the other one", x.of(1, 4), 100);
    }

    /** "GLUE of each INCH that has no THING is one less, if HEAT is above 4 (0 at least)". */
    private static void heatDries() {
        for (int heat = 0; heat <= 9; heat++) {
            Counted x = still();
            x.put(0, 1, 0, 20);
            x.set(5, 0, heat);
            x.set(0, 0, 0);
            x.set(0, 1, 1);
            x.set(0, 2, 2);
            x.set(0, 59, 99);
            x.days(2);
            int less = heat > 4 ? 2 : 0;
            due("heat " + heat + ": 0", x.inch(0, 0), 0);
            due("heat " + heat + ": 1", x.inch(1, 0), Math.max(0, 1 - less));
            due("heat " + heat + ": 2", x.inch(2, 0), 2 - less);
            due("heat " + heat + ": 99", x.inch(59, 0), 99 - less);
            due("heat " + heat + ": 50", x.inch(30, 0), 50 - less);
            due("heat " + heat + ": under a thing", x.inch(20, 0), 50);
        }
        Counted y = still();
        sky(y, "on 0 heat 5;on 1 heat 4;");
        y.days(1);
        due("the heat of that day", y.inch(9, 0), 49);
        y.days(1);
        due("no more", y.inch(9, 0), 49);
    }

    /** "DAY, what (0 came, 1 gone again, 2 lost a leg, 3 freed, 4 fell off, 5 tweezed), which, how much", all on one day. */
    private static void linesOfTheBook() {
        Counted x = quiet("sticks 1000 when kind=1;sticks 0;frees 1000 when kind=2;frees 0;slides 2 when kind=3;slides 0;");
        flight(x, "on 7 fly 1 0 at 11;on 7 date 1 0 at 12;");
        x.days(7);
        x.put(4, 1, 0, 13);
        x.put(2, 1, 0, 14);
        x.put(2, 1, 0, 15);
        x.put(3, 1, 0, 58);
        x.set(3, 1, 1);
        x.act(0, 0, 0);
        x.act(1, 13, 9);
        due("one got free, one fell off", x.days(1), 2);
        int[][] lines = {{7, 0, 0, 13}, {7, 0, 1, 14}, {7, 0, 2, 15}, {7, 0, 3, 58}, {7, 5, 0, 13}, {7, 1, -1, 11},
            {7, 0, 4, 12}, {7, 3, 1, 14}, {7, 2, 2, 15}, {7, 4, 3, 59}};
        due("lines", x.look(8), lines.length);
        for (int i = 0; i < lines.length; i++) {
            for (int w = 0; w < 4; w++) due("line " + i + " what " + w, x.book(i, w), lines[i][w]);
        }
        for (int w = 0; w < 4; w++) due("no line more", x.book(lines.length, w), -2);
    }

    /** "how many got free or fell off", of all the days together; tweezed ones are not among them. */
    private static void howManyGotFree() {
        Counted x = quiet("frees 1000 when kind=1;frees 0;slides 1;");
        x.put(1, 1, 0, 20);
        x.put(1, 1, 0, 30);
        x.put(0, 1, 0, 58);
        x.put(0, 1, 0, 57);
        x.put(0, 1, 0, 2);
        x.set(3, 0, 2);
        x.set(3, 1, 4);
        x.act(0, 4, 0);
        due("58 falls, 20 gets free", x.days(2), 2);
        due("57 falls", x.days(1), 1);
        due("30 gets free", x.days(1), 1);
        due("none", x.days(5), 0);
        due("freed", x.look(2), 4);
        due("read", x.look(3), 1);
        due("legs", x.look(6), 4);
    }
}
