/** Terms 2, what THE LAW tells of a THING: which line, how it is reckoned, how it is held, and what is told without a line. */
public final class LawTest {
    private static final Check CHECK = new Check("LawTest");

    private LawTest() {
    }

    private static void due(String call, long got, long want) {
        CHECK.due(call, got, want);
    }

    public static void main(String[] args) {
        sticksWithoutALine();
        freesWithoutALine();
        slidesWithoutALine();
        firstLineThatIsSo();
        eachWordOfItsOwn();
        heldWithinBounds();
        numbersAndOrderOfReckoning();
        partsGoTowardsZero();
        intsWrap();
        comparisons();
        andOrNot();
        whatAThingIs();
        whatIsAroundIt();
        whatComesUp();
        CHECK.finish();
    }

    private static int frees(String law) {
        Counted x = new Counted();
        x.put(3, 7, 4, 20);
        due("told: " + law, Check.tell(x, 0, law), law.split(";").length);
        return x.of(0, 7);
    }

    private static void value(String e, int want) {
        due("frees " + e, frees("frees " + e + ";"), want);
    }

    private static void holds(String b, boolean want) {
        due("when " + b, frees("frees 7 when " + b + ";frees 5;"), want ? 7 : 5);
    }

    /** "none: sticks: 10 times glue less 50 times wind", held to 0 .. 1000. */
    private static void sticksWithoutALine() {
        Counted x = new Counted();
        x.put(0, 1, 9, 0);
        int[][] rows = {{0, 0, 0}, {1, 0, 10}, {50, 0, 500}, {99, 0, 990}, {99, 9, 540}, {45, 9, 0}, {46, 9, 10},
            {44, 9, 0}, {5, 1, 0}, {6, 1, 10}, {4, 1, 0}, {0, 9, 0}};
        for (int[] r : rows) {
            x.set(0, 0, r[0]);
            x.set(4, 0, r[1]);
            due("glue " + r[0] + ", wind " + r[1], x.of(0, 6), r[2]);
        }
    }

    /** "frees: 20 times life and 10 times wind less 2 times glue". */
    private static void freesWithoutALine() {
        Counted x = new Counted();
        x.put(0, 1, 9, 0);
        int[][] rows = {{9, 9, 0, 270}, {0, 0, 0, 0}, {0, 0, 1, 0}, {5, 0, 50, 0}, {5, 0, 49, 2}, {5, 0, 51, 0},
            {9, 9, 99, 72}, {0, 9, 45, 0}, {0, 9, 44, 2}, {0, 1, 0, 10}, {1, 0, 0, 20}};
        for (int[] r : rows) {
            x.set(2, 0, r[0]);
            x.set(4, 0, r[1]);
            x.set(0, 0, r[2]);
            due("life " + r[0] + ", wind " + r[1] + ", glue " + r[2], x.of(0, 7), r[3]);
        }
    }

    /** "slides: heat by 4": a quotient, downwards. */
    private static void slidesWithoutALine() {
        Counted x = new Counted();
        x.put(0, 1, 9, 0);
        for (int heat = 0; heat <= 9; heat++) {
            x.set(5, 0, heat);
            due("heat " + heat, x.of(0, 8), heat < 4 ? 0 : heat < 8 ? 1 : 2);
        }
    }

    /** "E of the first line with that word whose B is so, or that has none". */
    private static void firstLineThatIsSo() {
        due("the first", frees("frees 3;frees 4;"), 3);
        due("not so, so the second", frees("frees 3 when 1=2;frees 4;"), 4);
        due("so, ahead of one without", frees("frees 3 when 1=1;frees 4;"), 3);
        due("without, ahead of one that is so", frees("frees 4;frees 3 when 1=1;"), 4);
        due("the first of two that are so", frees("frees 9 when 1=2;frees 3 when 1=1;frees 4 when 1=1;"), 3);
        due("none is so: as without a line", frees("frees 999 when 1=2;"), 0);
        due("the last of sixteen", frees("frees 9 when 1=2;".repeat(15) + "frees 6;"), 6);
        Counted x = new Counted();
        x.put(0, 1, 9, 0);
        x.set(0, 0, 0);
        due("without a text", x.of(0, 7), 180);
        Check.tell(x, 0, "frees 999 when life<9;");
        due("no line is so", x.of(0, 7), 180);
        x.set(2, 0, 8);
        due("it is so now", x.of(0, 7), 999);
        x.text(0);
        due("an empty law", x.of(0, 7), 160);
    }

    /** A line tells of its own word alone. */
    private static void eachWordOfItsOwn() {
        Counted x = new Counted();
        x.put(0, 1, 5, 0);
        x.set(0, 0, 10);
        x.set(5, 0, 8);
        int[] usual = {100, 80, 2};
        String[] words = {"sticks", "frees", "slides"};
        for (int w = 0; w < 3; w++) {
            Check.tell(x, 0, words[w] + " 7;");
            for (int v = 0; v < 3; v++) due(words[w] + " told, " + words[v], x.of(0, 6 + v), v == w ? 7 : usual[v]);
        }
        Check.tell(x, 0, "slides 3;frees 2;sticks 1;");
        for (int v = 0; v < 3; v++) due("all told, " + words[v], x.of(0, 6 + v), v + 1);
    }

    /** "sticks, frees held to 0 .. 1000, slides to 0 .. 9". */
    private static void heldWithinBounds() {
        Counted x = new Counted();
        x.put(0, 1, 5, 0);
        String[] e = {"0-9999", "0-1", "0", "1", "8", "9", "10", "11", "999", "1000", "1001", "9999", "9999*9999"};
        int[] chance = {0, 0, 0, 1, 8, 9, 10, 11, 999, 1000, 1000, 1000, 1000};
        int[] steps = {0, 0, 0, 1, 8, 9, 9, 9, 9, 9, 9, 9, 9};
        for (int i = 0; i < e.length; i++) {
            Check.tell(x, 0, "sticks " + e[i] + ";frees " + e[i] + ";slides " + e[i] + ";");
            due("sticks " + e[i], x.of(0, 6), chance[i]);
            due("frees " + e[i], x.of(0, 7), chance[i]);
            due("slides " + e[i], x.of(0, 8), steps[i]);
        }
    }

    /** "E = T {(+ | -) T}.  T = U {* U | / NUMBER}." */
    private static void numbersAndOrderOfReckoning() {
        value("0007", 7);
        value("0999", 999);
        value("9999-9000", 999);
        value("2+3*4", 14);
        value("2*3+4", 10);
        value("20-3-4", 13);
        value("20-3+4", 21);
        value("20+3-4-5+6", 20);
        value("100/10/5", 2);
        value("100/10*5", 50);
        value("7/2*2", 6);
        value("2*7/2", 7);
        value("100-7*9/2-1", 68);
        value("9/2+9/2", 8);
        value("1+1/2", 1);
        value("0/5", 0);
        value("9/9999", 0);
        value("9999/9999", 1);
        value("500*0-0+3", 3);
    }

    /** "/ goes towards 0", below 0 too. */
    private static void partsGoTowardsZero() {
        value("7/2", 3);
        value("100 + 9999*9999*22/9999 + 9999*20 + 9581", 100);
        value("10 + 9999*9999*22/9999/99 + 2116", 10);
        holds("9999*9999*22 < 0", true);
        holds("9999*9999*22/9999/9999/9999 = 0", true);
    }

    /** "Ints, which wrap". */
    private static void intsWrap() {
        value("9999*9999*9999", 0);
        holds("9999*9999*9999 < 0", true);
        holds("9999*9999*21 > 0", true);
        holds("9999*9999*21 + 9999*9999*21 < 0", true);
        holds("0 - 9999*9999*21 - 9999*9999*21 > 0", true);
        holds("9999*9999*43 > 0", true);
        value("9999*9999*43/9999", 417);
    }

    /** "<", "=", ">": below, at and above. */
    private static void comparisons() {
        boolean[][] want = {{true, false, false}, {false, true, false}, {false, false, true}};
        String[] sign = {"<", "=", ">"};
        for (int d = 0; d < 3; d++) {
            for (int s = 0; s < 3; s++) {
                holds("size " + sign[s] + " " + (8 - d), want[d][s]);
                holds((d + 6) + " " + sign[s] + " size", want[d][s]);
                holds("0-1+" + d + sign[s] + "0", want[d][s]);
            }
        }
        holds("1+1=2*1", true);
        holds("5 < 2*3 - 1", false);
    }

    /** "B = A {or A}.  A = C {and C}.": and ahead of or, not of one C alone. */
    private static void andOrNot() {
        for (int bits = 0; bits < 8; bits++) {
            boolean a = (bits & 1) != 0;
            boolean b = (bits & 2) != 0;
            boolean c = (bits & 4) != 0;
            String p = a ? "1=1" : "1=2";
            String q = b ? "2<3" : "3<2";
            String r = c ? "9>8" : "8>9";
            holds(p + " and " + q + " and " + r, a && b && c);
            holds(p + " or " + q + " or " + r, a || b || c);
            holds(p + " and " + q + " or " + r, a && b || c);
            holds(p + " or " + q + " and " + r, a || b && c);
            holds("(" + p + " or " + q + ") and " + r, (a || b) && c);
            holds(p + " and (" + q + " or " + r + ")", a && (b || c));
            holds("not " + p + " and " + q, !a && b);
            holds("not " + p + " or " + q, !a || b);
            holds("not (" + p + " and " + q + ")", !(a && b));
            holds("not (" + p + " or " + q + ") or not " + r, !(a || b) || !c);
            holds("not not " + p, a);
            holds("not not not (not " + p + ")", a);
            holds("not not not not not not not " + p + " and not " + q, !a && !b);
        }
    }

    /** "kind, size, life, age, limbs: the THING's; inch; glue: the INCH's; wind; heat; day". */
    private static void whatAThingIs() {
        Counted x = new Counted();
        x.put(0, 1, 1, 40);
        x.put(3, 7, 4, 20);
        x.set(0, 20, 61);
        x.set(0, 40, 17);
        x.set(3, 1, 5);
        Check.tell(x, 0, "frees 0;slides 0;");
        x.days(3);
        x.act(1, 41, 99);
        x.put(1, 9, 9, 39);
        x.days(1);
        x.set(4, 0, 2);
        x.set(5, 0, 3);
        String[] words = {"kind", "size", "life", "inch", "glue", "age", "limbs", "wind", "heat", "near", "day"};
        int[] second = {3, 7, 4, 20, 61, 4, 5, 2, 3, 0, 4};
        int[] third = {1, 9, 9, 39, 50, 1, 6, 2, 3, 1, 4};
        for (int i = 0; i < words.length; i++) {
            Check.tell(x, 0, "frees " + words[i] + ";sticks 9*" + words[i] + ";");
            due(words[i], x.of(1, 7), second[i]);
            due(words[i], x.of(1, 6), 9 * second[i]);
            due(words[i], x.of(2, 7), third[i]);
        }
    }

    /** "near: how many THINGS (others) are AT INCHES beside it or across a turn from it". */
    private static void whatIsAroundIt() {
        Counted x = new Counted();
        x.put(0, 1, 1, 0);
        x.put(0, 1, 1, 59);
        Check.tell(x, 0, "frees near;");
        due("alone", x.of(0, 7), 0);
        x.put(0, 1, 1, 1);
        x.put(0, 1, 1, 10);
        x.put(0, 1, 1, 11);
        due("0 with 1, 10, 11", x.of(0, 7), 2);
        due("1 with 0, 11", x.of(2, 7), 2);
        due("10 with 0, 11", x.of(3, 7), 2);
        due("11 with 1, 10", x.of(4, 7), 2);
        due("59", x.of(1, 7), 0);
        x.act(0, 0, 0);
        due("1 with 11", x.of(2, 7), 1);
    }

    /** Of what comes up: AGE 0, LIMBS 6, its INCH; it isn't one of the others yet. */
    private static void whatComesUp() {
        String so = "kind=4 and size=8 and life=7 and inch=30 and glue=12 and age=0 and limbs=6 and wind=1 and heat=2"
            + " and near=2 and day=1";
        for (String part : so.split(" and ")) {
            for (boolean turned : new boolean[] {false, true}) {
                Counted x = new Counted();
                x.put(0, 1, 1, 29);
                x.put(0, 1, 1, 40);
                x.put(0, 1, 1, 31);
                x.act(0, 2, 0);
                Check.tell(x, 0, "sticks 1000 when " + (turned ? "not " : "") + part + ";sticks 0;frees 0;slides 0;");
                Check.tell(x, 1, "on 1 wasp 8 7 at 30;");
                Check.tell(x, 2, "on 1 boil 30 12;on 1 wind 1;on 1 heat 2;");
                x.days(2);
                due((turned ? "not " : "") + part, x.inch(30, 2), turned ? -1 : 3);
            }
        }
    }
}
