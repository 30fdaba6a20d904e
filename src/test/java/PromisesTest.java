/** Each promise with ordinary calls, the edges that the document names, and wrong ones; the dues are worked out by hand. */
public final class PromisesTest {
    private static final Check CHECK = new Check("PromisesTest");
    private static final int LEAST = Integer.MIN_VALUE;
    private static final int MOST = Integer.MAX_VALUE;

    private PromisesTest() {
    }

    private static void due(String call, long got, long want) {
        CHECK.due(call, got, want);
    }

    private static void due(String call, boolean got, boolean want) {
        CHECK.due(call, got, want);
    }

    public static void main(String[] args) {
        fresh();
        states();
        sets();
        puts();
        acts();
        dayOrder();
        dayStruggle();
        daySlide();
        dayLimits();
        tapes();
        texts();
        lawFaults();
        otherFaults();
        lawValues();
        inches();
        books();
        thoughts();
        heapsAndNearest();
        sayings();
        passes();
        wordsAndLegs();
        orders();
        covers();
        wingPairs();
        dates();
        leaning();
        winds();
        squiresAndHands();
        games();
        undone();
        forgotten();
        images();
        looks();
        CHECK.finish();
    }

    private static void fresh() {
        Counted x = new Counted();
        for (int i = 0; i < 60; i++) {
            due("p1 glue", x.inch(i, 0), 50);
            due("p1 legs", x.inch(i, 1), 0);
            due("p1 thing", x.inch(i, 2), -1);
        }
        for (int w = 0; w < 15; w++) due("p1 look", x.look(w), 0);
        due("p1 fault", x.fault(0), 0);
        due("p1 place", x.fault(1), -1);
        due("p1 undo", x.undo(), false);
        due("p1 image", x.image(false), false);
        due("NONE", StuckRecord.NONE, -1);
    }

    private static void states() {
        Counted x = new Counted();
        due("p2 first", x.state(77), 0);
        due("p2 second", x.state(LEAST), 77);
        due("p2 as it is", x.look(9), LEAST);
        due("p2 third", x.state(0), LEAST);
    }

    private static void sets() {
        Counted x = new Counted();
        due("p3 glue", x.set(0, 59, 99), true);
        due("p3 glue is", x.inch(59, 0), 99);
        due("p3 glue 0", x.set(0, 0, 0), true);
        for (int[] w : new int[][] {{0, 60, 1}, {0, -1, 1}, {0, 0, 100}, {0, 0, -1}, {1, 0, 1}, {4, 0, 10}, {4, 0, -1},
            {5, 0, 10}, {5, 0, -1}, {6, 0, 1}, {-1, 0, 1}, {0, LEAST, 0}, {0, MOST, 0}, {MOST, 0, 0}}) {
            due("p3 wrong " + w[0], x.set(w[0], w[1], w[2]), false);
        }
        x.put(2, 5, 5, 7);
        for (int[] w : new int[][] {{1, 0, 0}, {1, 0, 10}, {2, 0, -1}, {2, 0, 10}, {3, 0, -1}, {3, 0, 7}, {1, 1, 5},
            {2, -1, 5}, {3, MOST, 5}}) {
            due("p3 wrong thing " + w[0], x.set(w[0], w[1], w[2]), false);
        }
        due("p3 size", x.set(1, 0, 9), true);
        due("p3 life", x.set(2, 0, 0), true);
        due("p3 limbs", x.set(3, 0, 0), true);
        due("p3 size is", x.of(0, 1), 9);
        due("p3 life is", x.of(0, 2), 0);
        due("p3 limbs is", x.of(0, 5), 0);
        due("p3 wind, who not asked", x.set(4, -99, 9), true);
        due("p3 heat, who not asked", x.set(5, MOST, 8), true);
        due("p3 wind is", x.look(4), 9);
        due("p3 heat is", x.look(5), 8);
    }

    private static void puts() {
        Counted x = new Counted();
        for (int[] w : new int[][] {{-1, 1, 0, 0}, {6, 1, 0, 0}, {0, 0, 0, 0}, {0, 10, 0, 0}, {0, 1, -1, 0}, {0, 1, 10, 0},
            {0, 1, 0, -1}, {0, 1, 0, 60}, {0, 1, 0, LEAST}, {0, 1, 0, MOST}}) {
            due("p4 wrong", x.put(w[0], w[1], w[2], w[3]), -1);
        }
        due("p4 nothing came", x.look(1), 0);
        for (int i = 0; i < 20; i++) due("p4 number", x.put(5, 9, 9, i * 2), i);
        due("p4 the 21st", x.put(5, 9, 9, 59), -1);
        due("p4 glue as it is", x.inch(0, 0), 50);
        due("p4 age", x.of(3, 4), 0);
        due("p4 limbs", x.of(3, 5), 6);
        due("p4 kind", x.of(3, 0), 5);
        due("p4 at", x.of(3, 3), 6);
        x.act(0, 4, 0);
        due("p4 taken", x.put(0, 1, 0, 6), -1);
        due("p4 a new number", x.put(0, 1, 0, 8), 20);
        due("p4 came", x.look(1), 21);
        due("p4 state as it was", x.look(9), 0);
    }

    private static void acts() {
        Counted x = new Counted();
        x.put(1, 2, 3, 4);
        due("p5 tweeze none", x.act(0, 1, 0), false);
        due("p5 boil 60", x.act(1, 60, 5), false);
        due("p5 boil -1", x.act(1, -1, 5), false);
        due("p5 boil to 100", x.act(1, 0, 100), false);
        due("p5 boil to -1", x.act(1, 0, -1), false);
        due("p5 another what", x.act(2, 0, 0), false);
        due("p5 another what", x.act(-1, 0, 0), false);
        due("p5 boil the first", x.act(1, 0, 0), true);
        due("p5 boil the last", x.act(1, 59, 1), true);
        due("p5 boiled", x.inch(0, 0) + 100 * x.inch(59, 0), 100);
        due("p5 boil", x.act(1, 4, 99), true);
        due("p5 boiled", x.inch(4, 0), 99);
        due("p5 no line of it", x.look(8), 1);
        due("p5 tweeze", x.act(0, 0, -7), true);
        due("p5 read", x.look(3), 1);
        due("p5 gone", x.inch(4, 2), -1);
        due("p5 freed not", x.look(2), 0);
        due("p5 line", x.book(1, 1), 5);
        due("p5 line which", x.book(1, 2), 0);
        due("p5 line inch", x.book(1, 3), 4);
    }

    /** SKY comes ahead of FLIGHT; what is taken takes no draw and no line; glue less by SIZE. */
    private static void dayOrder() {
        Counted x = new Counted();
        due("p9 sky", Check.tell(x, 2, "on 0 boil 5 3;on 0 dry 2;on 0 wind 4;on 0 boil 6 100;"), -1);
        due("p9 sky", Check.tell(x, 2, "on 0 boil 5 3;on 0 dry 2;on 0 wind 4;on 1 dry 99;"), 4);
        due("p9 flight", Check.tell(x, 1, "on 0 wasp 9 1 at 5;on 0 fly 1 1 at 5;on 0 fly 1 1 at 7;"), 3);
        due("p9 law", Check.tell(x, 0, "sticks 1000 when inch=5 and glue=1 and wind=4 and age=0 and limbs=6;sticks near;frees 0;"), 3);
        due("p6 day", x.days(1), 0);
        due("p6 stuck", x.of(0, 3), 5);
        due("p6 glue 0 at least", x.inch(5, 0), 0);
        due("p6 dried", x.inch(7, 0), 48);
        due("p6 two lines", x.look(8), 2);
        due("p6 gone again", x.book(1, 1), 1);
        due("p6 which none", x.book(1, 2), -1);
        due("p6 inch", x.book(1, 3), 7);
        due("p6 two draws", x.look(9), 1664525 * 1013904223 + 1013904223);
        due("p6 came", x.look(1), 1);
        due("p6 day 1", x.look(7), 1);
        x.days(1);
        due("p6 dried out", x.inch(30, 0), 0);
        due("p6 no draw by frees 0", x.look(9), 1664525 * 1013904223 + 1013904223);
        due("p6 age", x.of(0, 4), 2);
    }

    private static void dayStruggle() {
        Counted x = new Counted();
        Check.tell(x, 0, "frees 1000;");
        x.put(4, 3, 2, 10);
        due("p6 five days lose five legs", x.days(5), 0);
        due("p6 limbs", x.of(0, 5), 1);
        due("p6 life 0 at least", x.of(0, 2), 0);
        due("p6 legs", x.inch(10, 1), 5);
        due("p6 free", x.days(1), 1);
        due("p6 freed", x.look(2), 1);
        due("p6 gone", x.of(0, 0), -1);
        due("p6 line", x.book(6, 1), 3);
        due("p6 line day", x.book(6, 0), 5);
        due("p6 line inch", x.book(6, 3), 10);
        due("p6 a leg's line", x.book(3, 1), 2);
        due("p36 legs of all", x.look(6), 5);
        x.put(0, 1, 9, 20);
        x.set(3, 1, 0);
        due("p6 0 limbs: free", x.days(1), 1);
        x.put(0, 1, 9, 20);
        x.put(0, 1, 9, 21);
        x.set(3, 2, 1);
        Check.tell(x, 0, "frees 1000 when number;");
        due("p10 a wrong law stays away", x.fault(0), 1);
        Check.tell(x, 0, "frees 1000 * near + 1000 * (1);");
        due("p10 no ( in E", x.fault(1), 27);
        Check.tell(x, 0, "frees 1000 - 1000 * near;frees 5;slides 0;");
        due("p6 each by number with what is near it then", x.days(1), 0);
        Check.tell(x, 0, "frees 1000 when limbs<2;frees 1000 - 1000 * near;");
        due("p6 the second is alone after the first", x.days(1), 1);
        due("p6 so it lost a leg", x.of(3, 5), 5);
    }

    private static void daySlide() {
        Counted x = new Counted();
        Check.tell(x, 0, "frees 0;slides 3 when kind=0;slides 9;");
        x.put(0, 1, 0, 10);
        x.put(0, 1, 0, 11);
        x.put(5, 1, 0, 51);
        x.put(5, 1, 0, 50);
        x.put(5, 1, 0, 20);
        x.set(5, 0, 5);
        due("p6 one falls off", x.days(1), 1);
        due("p6 the greatest first", x.of(1, 3), 14);
        due("p6 and the one behind it", x.of(0, 3), 13);
        due("p6 51 + 9 is off", x.of(2, 0), -1);
        due("p6 50 + 9 is not", x.of(3, 3), 59);
        due("p6 20 + 9", x.of(4, 3), 29);
        due("p6 fell: what", x.book(5, 1), 4);
        due("p6 fell: which", x.book(5, 2), 2);
        due("p6 fell: 59", x.book(5, 3), 59);
        due("p6 glue where a thing is", x.inch(59, 0), 50);
        due("p6 glue where none is", x.inch(58, 0), 49);
        x.set(5, 0, 4);
        x.set(0, 0, 0);
        Check.tell(x, 0, "frees 0;slides 0;");
        x.days(1);
        due("p6 no heat, no drying", x.inch(58, 0), 49);
        x.set(5, 0, 9);
        x.days(1);
        due("p6 0 at least", x.inch(0, 0), 0);
        Check.tell(x, 0, "frees 0;slides 1;");
        x.put(1, 1, 0, 58);
        due("p6 59 falls, 58 follows", x.days(1), 1);
        due("p6 to 59", x.of(5, 3), 59);
        Check.tell(x, 0, "");
        x.put(1, 1, 0, 0);
        x.days(1);
        due("p6 heat 9 by 4", x.of(6, 3), 2);
    }

    private static void dayLimits() {
        Counted x = new Counted();
        for (int n : new int[] {0, -1, 61, LEAST, MOST}) due("p6 wrong", x.days(n), -1);
        x.put(0, 1, 0, 0);
        for (int i = 0; i < 166; i++) x.days(60);
        due("p6 day 9960", x.look(7), 9960);
        due("p6 above 9999", x.days(40), -1);
        due("p6 nothing is done", x.look(7), 9960);
        due("p6 up to 9999", x.days(39), 0);
        due("p6 no more", x.days(1), -1);
        due("p6 age 999 at most", x.of(0, 4), 999);
        due("p14 in thought days go on", x.goes(2, 0), 1);
        due("p34 six are kept", x.look(14), 6);
    }

    private static void tapes() {
        Counted x = new Counted();
        for (int i = 1; i <= 20; i++) due("p7 feed", x.feed(0, 1, 2, 3, 4), 20 * i);
        due("p7 full", x.feed(0, 0, 0, 0, 0), -1);
        due("p8 more than it has", x.end(401), false);
        due("p8 below 0", x.end(-1), false);
        due("p8 all of it", x.end(400), true);
        due("p8 381", x.end(381), true);
        due("p7 401 would be", x.feed(0, 0, 0, 0, 0), -1);
        due("p8 380", x.end(380), true);
        due("p7 400", x.feed(0, 0, 0, 0, 0), 400);
        due("p8 none", x.end(0), true);
        due("p8 no more", x.end(1), false);
        due("p7 the highest first", x.feed(0x6672_6565, 0x7320_3939, 0x393b_2020, 0x2020_2020, 0x2020_2020), 20);
        due("p9 frees 999;", x.text(0), 1);
        x.put(0, 1, 0, 0);
        due("p12 frees", x.of(0, 7), 999);
        due("p9 the tape is empty", x.end(1), false);
        Check.feed(x, "frees 1;");
        due("p9 no such text", x.text(4), -1);
        due("p9 the tape is empty", x.end(1), false);
        Check.feed(x, "frees");
        due("p9 a fault", x.text(0), -1);
        due("p9 the tape is empty", x.end(1), false);
        due("p9 the text stays", x.of(0, 7), 999);
        due("p10 fault", x.fault(0), 1);
        due("p10 place", x.fault(1), 5);
        due("p10 another what", x.fault(2), -1);
        due("p10 another what", x.fault(-1), -1);
        due("p9 no such text", x.text(-1), -1);
        due("p10 fault 0", x.fault(0), 0);
        due("p10 place none", x.fault(1), -1);
    }

    private static void fault(int k, String text, int what, int place) {
        Counted x = new Counted();
        int lines = Check.tell(x, k, text);
        due("p9 " + text, lines < 0 ? -1 : 0, what == 0 ? 0 : -1);
        due("p10 fault of " + text, x.fault(0), what);
        due("p10 place of " + text, x.fault(1), place);
    }

    private static void texts() {
        Counted x = new Counted();
        due("p9 blanks", Check.tell(x, 0, " \n \n"), 0);
        due("p9 joined tokens", Check.tell(x, 1, "on0fly1 0at\n59;on 999veil9 9at0;"), 2);
        due("p9 sixteen", Check.tell(x, 0, "frees 0;".repeat(16)), 16);
        due("p36 law", x.look(10), 16);
        due("p36 flight", x.look(11), 2);
        due("p9 strips", Check.tell(x, 3, "strip 0 on strip 11;"), 1);
        due("p36 strips", x.look(13), 1);
        due("p9 sky", Check.tell(x, 2, "on 0 wind 9;on 0 heat 0;on 999 boil 59 99;on 7 dry 99;"), 4);
        due("p36 sky", x.look(12), 4);
        due("p9 a wrong one", Check.tell(x, 2, "on 0 wind;"), -1);
        due("p9 stays", x.look(12), 4);
        due("p9 none any more", x.text(2), 0);
        due("p36 sky", x.look(12), 0);
    }

    private static void lawFaults() {
        fault(0, "frees 0;".repeat(17), 3, 128);
        fault(0, "frees 0;".repeat(16) + " x", 1, 129);
        fault(0, "sticks 1   ", 1, 11);
        fault(0, "sticks 1 2;", 1, 9);
        fault(0, "sticks 1;;", 1, 9);
        for (String letter : new String[] {"A", "Z", "a", "z"}) fault(0, "sticks" + letter + " 1;", 1, 0);
        for (String sign : new String[] {"@", "[", "`", "{", "/", ":", "\u00e9", "\0"}) fault(0, "sticks" + sign + " 1;", 1, 6);
        fault(0, ";".repeat(400), 1, 0);
        fault(0, "frees 1" + "+1".repeat(196) + ";", 0, -1);
        fault(0, "frees 1" + "+1".repeat(196) + "+", 1, 400);
        fault(0, "sticks 1\t;", 1, 8);
        fault(0, "sticks 00000;", 1, 7);
        fault(0, "sticks 0000;", 0, -1);
        fault(0, "sticks 9999 * 9999 / 9999;", 0, -1);
        fault(0, "sticks 1 / 00;", 2, 11);
        fault(0, "sticks 1 / size;", 1, 11);
        fault(0, "sticks -1;", 1, 7);
        fault(0, "sticks (1);", 1, 7);
        fault(0, "sticks 1 when 1;", 1, 15);
        fault(0, "sticks 1 when 1=;", 1, 16);
        fault(0, "sticks 1 when 1=1=1;", 1, 17);
        fault(0, "sticks 1 when (1=1;", 1, 18);
        fault(0, "sticks 1 when 1=1);", 1, 17);
        fault(0, "sticks 1 when not;", 1, 17);
        fault(0, "sticks 1 when 1=1 or;", 1, 20);
        fault(0, "sticks 1 when 1=1 and", 1, 21);
        fault(0, "sticks 1 when;", 1, 13);
        fault(0, "sticks fly;", 1, 7);
        fault(0, "on 0 wind 1;", 1, 0);
        fault(0, "sticks 1 when " + "(".repeat(8) + "1=1" + ")".repeat(8) + ";", 0, -1);
        fault(0, "sticks 1 when " + "(".repeat(9) + "1=1" + ")".repeat(9) + ";", 3, 22);
        fault(0, "sticks 1 when " + "not(".repeat(4) + "1=1" + ")".repeat(4) + ";", 0, -1);
        fault(0, "sticks 1 when " + "not(".repeat(4) + "not 1=1" + ")".repeat(4) + ";", 3, 30);
        fault(0, "sticks 1 when " + "not 1=1 and ".repeat(10) + "(1=1) or (1=1);", 0, -1);
        fault(0, "sticks 1 when not not not not not not not not 1=1 or not 1=1;", 0, -1);
    }

    private static void otherFaults() {
        fault(1, "on 1000 fly 1 0 at 0;", 2, 3);
        fault(1, "on 0 fly 0 0 at 0;", 2, 9);
        fault(1, "on 0 fly 1 10 at 0;", 2, 11);
        fault(1, "on 0 fly 1 0 at 60;", 2, 16);
        fault(1, "on 0 fly 1 0 at 59;", 0, -1);
        fault(1, "on 0 bee 1 0 at 0;", 1, 5);
        fault(1, "on 0 fly 1 0 on 0;", 1, 13);
        fault(1, "on 0 fly 1 0 at 0", 1, 17);
        fault(1, "on fly", 1, 3);
        fault(1, "on 0 fly 1 0 at 0;".repeat(16) + "on", 3, 288);
        fault(2, "on 1000 wind 0;", 2, 3);
        fault(2, "on 0 wind 10;", 2, 10);
        fault(2, "on 0 heat 10;", 2, 10);
        fault(2, "on 0 boil 60 0;", 2, 10);
        fault(2, "on 0 boil 59 100;", 2, 13);
        fault(2, "on 0 boil 5;", 1, 11);
        fault(2, "on 0 dry 0;", 2, 9);
        fault(2, "on 0 dry 100;", 2, 9);
        fault(2, "on 0 wind 1 2;", 1, 12);
        fault(2, "on 0 near 1;", 1, 5);
        fault(2, "on 0 dry 1;".repeat(17), 3, 176);
        fault(3, "strip 0 on strip 0;", 2, 17);
        fault(3, "strip 12 on strip 0;", 2, 6);
        fault(3, "strip 0 on strip 12;", 2, 17);
        fault(3, "strip 0 on 1;", 1, 11);
        fault(3, "strip 0 strip 1;", 1, 8);
        fault(3, "strip 00 on strip 0;", 2, 18);
        fault(3, "strip 1 on strip 0;".repeat(17), 3, 304);
    }

    private static void value(String e, int want) {
        Counted x = new Counted();
        x.put(3, 7, 4, 20);
        x.put(0, 1, 1, 30);
        x.put(0, 1, 1, 19);
        x.put(0, 1, 1, 21);
        x.put(0, 1, 1, 10);
        x.set(0, 20, 61);
        x.set(4, 0, 2);
        x.set(5, 0, 3);
        x.set(3, 0, 5);
        Check.tell(x, 0, "frees 0;slides 0;");
        x.days(3);
        Check.tell(x, 0, "frees " + e + ";");
        due("p12 frees " + e, x.of(0, 7), want);
    }

    private static void lawValues() {
        value("kind", 3);
        value("size", 7);
        value("life", 4);
        value("inch", 20);
        value("glue", 61);
        value("age", 3);
        value("limbs", 5);
        value("wind", 2);
        value("heat", 3);
        value("near", 4);
        value("day", 3);
        value("2+3*4", 14);
        value("20-3-4", 13);
        value("100/3*3", 99);
        value("7-9+3", 1);
        value("0-1", 0);
        value("1001", 1000);
        value("100 - 7 * 9 / 2", 69);
        value("500 + 9999*9999*9999/9999/9999", 500 + 9999 * 9999 * 9999 / 9999 / 9999);
        value("1 when 1=2", 0);
        value("10 when kind<4 and size>7 or life=4", 10);
        value("10 when kind<4 and (size>7 or life=5)", 0);
        value("10 when not kind<4 or near=4", 10);
        value("10 when not (kind<4 or near=4);frees 20", 20);
        value("10 when not kind<4 and near=4", 0);
        value("10 when 1=2 or 1=2 or 1<2 and 2<3", 10);
        value("5 - 9 when 1=1", 0);
        value("10 when (0-7)/2 = 0-3", 0);
        value("10 when 0-7/2 = 0-3", 10);
        value("10 when 9999*9999*9999 < 0;frees 1", 9999 * 9999 * 9999 < 0 ? 10 : 1);
        Counted x = new Counted();
        x.put(0, 1, 9, 0);
        x.set(0, 0, 30);
        x.set(4, 0, 1);
        x.set(5, 0, 7);
        due("p12 sticks as told nowhere", x.of(0, 6), 250);
        due("p12 frees as told nowhere", x.of(0, 7), 130);
        due("p12 slides as told nowhere", x.of(0, 8), 1);
        x.set(4, 0, 9);
        due("p12 sticks held", x.of(0, 6), 0);
        Check.tell(x, 0, "sticks 9999;slides 10;sticks 1;");
        due("p12 sticks held", x.of(0, 6), 1000);
        due("p12 slides held", x.of(0, 8), 9);
    }

    private static void inches() {
        Counted x = new Counted();
        x.put(0, 1, 1, 59);
        x.put(5, 2, 3, 0);
        due("p11 thing", x.inch(59, 2), 0);
        due("p11 thing", x.inch(0, 2), 1);
        for (int i : new int[] {-1, 60, LEAST, MOST}) due("p11 wrong", x.inch(i, 0), -2);
        for (int w : new int[] {-1, 3, LEAST, MOST}) due("p11 wrong what", x.inch(0, w), -2);
        due("p12 kind", x.of(1, 0), 5);
        due("p12 size", x.of(1, 1), 2);
        due("p12 life", x.of(1, 2), 3);
        due("p12 at", x.of(1, 3), 0);
        due("p12 near", x.of(1, 9), 0);
        for (int w : new int[] {-1, 10, LEAST, MOST}) due("p12 wrong what", x.of(0, w), -1);
        for (int t : new int[] {-1, 2, LEAST, MOST}) due("p12 wrong thing", x.of(t, 0), -1);
    }

    private static void books() {
        Counted x = new Counted();
        for (int i = 0; i < 74; i++) {
            x.put(0, 1, 1, 5);
            x.act(0, i, 0);
        }
        x.days(3);
        x.put(0, 1, 1, 6);
        due("p13 149 lines", x.look(8), 149);
        due("p13 day", x.book(148, 0), 3);
        x.put(0, 1, 1, 7);
        x.put(0, 1, 1, 8);
        due("p13 150 lines", x.look(8), 150);
        due("p13 no more", x.book(149, 3), 7);
        due("p13 none such", x.book(150, 0), -2);
        due("p13 none such", x.book(-1, 0), -2);
        due("p13 another what", x.book(0, 4), -2);
        due("p13 another what", x.book(0, -1), -2);
        due("p13 came all the same", x.look(1), 77);
        x.undo();
        due("p34 still 150", x.look(8), 150);
        x.undo();
        due("p34 149", x.look(8), 149);
    }

    private static void thoughts() {
        Counted x = new Counted();
        Check.tell(x, 0, "sticks 500 when inch=5;sticks 499;frees 500 when kind=0;frees 499;slides 0;");
        Check.tell(x, 1, "on 0 fly 4 9 at 5;on 0 date 4 9 at 6;");
        Check.tell(x, 2, "on 1 heat 5;");
        x.put(1, 1, 9, 40);
        due("p14 things", x.goes(1, 0), 2);
        due("p14 legs", x.goes(5, 2), 5);
        due("p14 freed", x.goes(5, 1), 0);
        due("p14 freed", x.goes(6, 1), 1);
        due("p14 things", x.goes(6, 0), 1);
        due("p14 glue", x.goes(1, 3), 2996);
        due("p14 glue", x.goes(2, 3), 2996 - 58);
        due("p14 glue", x.goes(6, 3), 2996 - 4 * 58 - 59);
        due("p14 nothing stays", x.look(7), 0);
        due("p14 nothing stays", x.look(0), 1);
        due("p14 no draws", x.look(9), 0);
        due("p14 no heat", x.look(5), 0);
        due("p14 no lines", x.look(8), 1);
        for (int n : new int[] {0, -1, 61, LEAST, MOST}) due("p14 wrong", x.goes(n, 0), -1);
        due("p14 another what", x.goes(1, 4), -1);
        due("p14 another what", x.goes(1, -1), -1);
        due("p14 60", x.goes(60, 0), 1);
    }

    private static void heapsAndNearest() {
        Counted x = new Counted();
        x.put(1, 1, 1, 30);
        x.put(1, 1, 1, 9);
        due("p15 nearest", x.nearest(1), 1);
        due("p15 no such", x.nearest(2), -1);
        due("p15 another kind", x.nearest(6), -1);
        due("p15 another kind", x.nearest(-1), -1);
        due("p16 parts", x.heaps(0), 2);
        due("p16 greatest", x.heaps(1), 1);
        due("p16 the least inch of several", x.heaps(2), 9);
        x.put(0, 1, 1, 10);
        due("p16 9 and 10 are side by side", x.heaps(1), 2);
        x.put(0, 1, 1, 20);
        due("p16 all", x.heaps(0), 1);
        due("p16 all", x.heaps(1), 4);
        x.put(0, 1, 1, 50);
        x.put(0, 1, 1, 0);
        due("p16 parts", x.heaps(0), 2);
        due("p16 its least", x.heaps(2), 0);
        due("p16 another what", x.heaps(3), -1);
        due("p16 another what", x.heaps(-1), -1);
    }

    private static void sayings() {
        Counted x = new Counted();
        for (int i = 0; i < 8; i++) due("p17 kind", x.kind(3), i + 1);
        due("p17 the ninth", x.kind(3), -1);
        due("p18 not there", x.says(0), 0);
        due("p18 no way", x.says(1), 0);
        for (int i = 0; i < 20; i++) x.put(3, 1, 0, 59 - i);
        due("p18 there", x.says(0), 1);
        due("p18 20 over 8", x.says(1), 125970);
        due("p18 ages alike", x.says(2), 1);
        due("p18 another what", x.says(3), -1);
        due("p18 another what", x.says(-1), -1);
        due("p17 none then", x.kind(-1), 0);
        due("p17 wrong", x.kind(6), -1);
        due("p17 wrong", x.kind(-2), -1);
        due("p18 empty", x.says(0), 1);
        due("p18 empty", x.says(1), 1);
        Counted y = new Counted();
        y.put(0, 1, 0, 50);
        y.days(1);
        y.put(1, 1, 0, 40);
        y.days(1);
        y.put(2, 1, 0, 45);
        y.days(1);
        y.put(3, 1, 0, 30);
        due("p18 30, 45, 50", y.says(2), 3);
        y.kind(3);
        y.kind(0);
        due("p18 not side by side", y.says(0), 1);
        y.kind(-1);
        y.kind(0);
        y.kind(3);
        due("p18 in order alone", y.says(0), 0);
    }

    private static void passes() {
        Counted x = new Counted();
        x.put(0, 1, 0, 0);
        x.put(0, 1, 0, 30);
        due("p19 first", x.pass(1, 0), 1);
        due("p19 how many", x.pass(1, 1), 58);
        due("p19 29 wide", x.pass(29, 1), 2);
        due("p19 29 wide", x.pass(29, 0), 1);
        due("p19 30 wide", x.pass(30, 0), -1);
        due("p19 30 wide", x.pass(30, 1), 0);
        x.act(0, 1, 0);
        due("p19 59 wide", x.pass(59, 0), 1);
        for (int w : new int[] {0, -1, 60, LEAST, MOST}) due("p19 wrong", x.pass(w, 1), -1);
        due("p19 another what", x.pass(1, 2), -1);
        due("p19 another what", x.pass(1, -1), -1);
    }

    private static void wordsAndLegs() {
        Counted x = new Counted();
        x.put(0, 1, 9, 0);
        x.put(0, 1, 9, 59);
        Check.tell(x, 0, "frees 1000;");
        x.days(4);
        due("p36 legs", x.look(6), 8);
        due("p20 word", x.words(8, 10), 1);
        due("p20 word", x.words(5, 7), 2);
        due("p20 word", x.words(3, 3), 3);
        due("p21 several: the least set", x.legs(1), 1);
        due("p21 worth", x.legs(0), 10);
        due("p20 word", x.words(3, 4), 4);
        due("p21 worth", x.legs(0), 11);
        due("p21 set", x.legs(1), 10);
        due("p20 word", x.words(9, 99), 5);
        due("p21 too many legs", x.legs(0), 11);
        due("p20 word", x.words(30, 0), 6);
        due("p20 the seventh", x.words(1, 1), -1);
        due("p20 none then", x.words(-1, 500), 0);
        due("p21 none", x.legs(0), 0);
        for (int[] w : new int[][] {{0, 1}, {31, 1}, {1, 100}, {1, -1}, {-2, 1}, {LEAST, 0}, {MOST, 0}}) {
            due("p20 wrong", x.words(w[0], w[1]), -1);
        }
        x.words(1, 0);
        due("p21 worth nothing: the least set", x.legs(1), 0);
        due("p21 another what", x.legs(2), -1);
        due("p21 another what", x.legs(-1), -1);
    }

    private static void orders() {
        Counted x = new Counted();
        Check.tell(x, 3, "strip 11 on strip 0;strip 11 on strip 1;strip 1 on strip 0;strip 5 on strip 6;"
            + "strip 6 on strip 7;strip 7 on strip 5;strip 8 on strip 7;strip 5 on strip 9;");
        due("p22 first", x.order(0), 0b011000011101);
        due("p22 rounds", x.order(1), 0b000011100000);
        due("p22 tops", x.order(2), 0b110100011100);
        due("p22 earliest 11", x.order(21), 2);
        due("p22 earliest 1", x.order(11), 1);
        due("p22 earliest 0", x.order(10), 0);
        due("p22 earliest 8 on a round", x.order(18), -1);
        due("p22 earliest 9 under a round", x.order(19), 0);
        due("p22 under 0", x.order(30), 0b100000000010);
        due("p22 under 9", x.order(39), 0b000111100000);
        due("p22 under 5", x.order(35), 0b000111100000);
        due("p22 under 11", x.order(41), 0);
        for (int w : new int[] {-1, 3, 9, 22, 29, 42, LEAST, MOST}) due("p22 another what", x.order(w), -1);
    }

    private static void covers() {
        Counted x = new Counted();
        due("p23 an empty look", x.sight(0), 1);
        due("p24 nothing to show", x.cover(0), 0);
        due("p23 look", x.sight(4095), 2);
        due("p24 one", x.cover(0), 1);
        due("p24 set", x.cover(1), 2);
        due("p23 none then", x.sight(-1), 0);
        for (int s : new int[] {3, 6, 12, 9, 1, 2, 4, 8}) x.sight(s);
        due("p23 the ninth", x.sight(1), -1);
        due("p24 fewest", x.cover(0), 2);
        due("p24 of several the least", x.cover(1), 5);
        for (int s : new int[] {4096, -2, LEAST, MOST}) {
            x.sight(-1);
            due("p23 wrong", x.sight(s), -1);
        }
        x.sight(-1);
        for (int i = 0; i < 8; i++) x.sight(1 << i + 4);
        due("p24 all eight", x.cover(0), 8);
        due("p24 all eight", x.cover(1), 255);
        due("p24 another what", x.cover(2), -1);
        due("p24 another what", x.cover(-1), -1);
    }

    private static void wingPairs() {
        Counted x = new Counted();
        for (int i = 1; i < 8; i++) due("p25 vein", x.vein(0, 0, i), i);
        due("p26 unlike", x.wings(0), 0);
        due("p26 unlike", x.wings(1), 0);
        for (int i = 0; i < 7; i++) due("p25 vein", x.vein(1, i, 7), i + 1);
        due("p26 a star", x.wings(1), 5040);
        due("p26 whether", x.wings(0), 1);
        due("p25 again", x.vein(1, 7, 0), 8);
        due("p25 again", x.vein(1, 0, 7), 9);
        due("p25 the tenth", x.vein(1, 0, 7), -1);
        due("p26 several count as one", x.wings(1), 5040);
        due("p25 none then", x.vein(1, -1, 99), 0);
        due("p25 wing 0 as it was", x.vein(0, 1, 2), 8);
        for (int[] v : new int[][] {{0, 8, 1}, {0, 1, 8}, {0, -2, 1}, {0, 1, -1}, {0, 4, 4}, {2, 0, 1}, {-1, 0, 1},
            {2, -1, 0}, {0, MOST, 0}, {0, 0, LEAST}}) {
            due("p25 wrong", x.vein(v[0], v[1], v[2]), -1);
        }
        Counted y = new Counted();
        for (int i = 0; i < 8; i++) {
            y.vein(0, i, (i + 1) % 8);
            y.vein(1, i * 3 % 8, (i + 1) * 3 % 8);
        }
        due("p26 a round of eight", y.wings(1), 16);
        y.vein(0, 0, 4);
        y.vein(1, 0, 1);
        due("p26 a chord across is no chord near", y.wings(1), 0);
        due("p26 another what", y.wings(2), -1);
        due("p26 another what", y.wings(-1), -1);
    }

    private static void dates() {
        Counted x = new Counted();
        due("p27", x.weekday(20261118), 3);
        due("p27", x.weekday(19700101), 4);
        due("p27", x.weekday(18000228), 5);
        for (int d : new int[] {18000229, 17000229, 20990229, 21000101, 16991231, 20000001, 20001301, 20000100, 20000132,
            20000431, 0, -20000101, LEAST, MOST}) {
            due("p27 no such day " + d, x.weekday(d), -1);
            due("p28 no such day " + d, x.between(20000101, d), -1000000);
            due("p28 no such day " + d, x.between(d, 20000101), -1000000);
        }
        due("p28 all", x.between(17000101, 20991231), 146096);
        due("p28 back", x.between(20991231, 17000101), -146096);
        due("p28 none", x.between(20000229, 20000229), 0);
        due("p28 a year", x.between(20000301, 20010301), 365);
    }

    private static void leaning() {
        Counted x = new Counted();
        x.put(0, 2, 0, 9);
        x.put(0, 3, 0, 10);
        x.put(0, 5, 0, 11);
        x.put(0, 9, 0, 20);
        x.put(0, 9, 0, 13);
        due("p29", x.leans(0), -8);
        due("p29", x.leans(1), -3);
        due("p29", x.leans(2), 5);
        due("p29 alone", x.leans(3), 0);
        for (int t : new int[] {-1, 5, LEAST, MOST}) due("p29 not on it", x.leans(t), -1000);
    }

    private static void winds() {
        Counted x = new Counted();
        due("p30 none", x.go(-1), -1);
        x.put(0, 1, 9, 0);
        x.put(0, 1, 9, 1);
        x.put(0, 1, 9, 2);
        x.set(3, 0, 1);
        x.set(3, 1, 0);
        Check.tell(x, 0, "frees 100 * wind when inch<2;frees 1000;");
        due("p30 4", x.go(4), 0);
        due("p30 5", x.go(5), 2);
        due("p30 the least", x.go(-1), 5);
        due("p30 wind as it was", x.look(4), 0);
        due("p30 wrong", x.go(10), -1);
        due("p30 wrong", x.go(-2), -1);
        due("p30 wrong", x.go(LEAST), -1);
        Check.tell(x, 0, "frees 500 when wind=9;frees 499;");
        due("p30 9 is the least", x.go(-1), 9);
        Check.tell(x, 0, "frees 500 when wind=0 and inch=0;frees 0;");
        due("p30 0 is the least", x.go(-1), 0);
        due("p30 one of two", x.go(0), 1);
        Check.tell(x, 0, "frees 499;");
        due("p30 never", x.go(-1), -1);
        due("p30 9", x.go(9), 0);
    }

    private static void squiresAndHands() {
        Counted x = new Counted();
        x.put(0, 9, 0, 0);
        due("p31 no wasp", x.squires(0), 0);
        due("p31 no wasp", x.squires(1), 0);
        x.put(4, 4, 0, 20);
        due("p31 one", x.squires(0), 4);
        due("p31 one", x.squires(1), 1);
        for (int i = 0; i < 4; i++) x.put(4, 1, 0, 30 + i);
        due("p31 4 against four", x.squires(0), 0);
        due("p31 the first alone", x.squires(1), 1);
        x.put(4, 4, 0, 10);
        due("p31 of several the fewest", x.squires(1), 3);
        due("p31 4 and 4 and 1111", x.squires(0), 0);
        due("p31 another what", x.squires(2), -1);
        due("p31 another what", x.squires(-1), -1);
        Counted y = new Counted();
        for (int i = 0; i < 20; i++) y.put(4, 9, 0, i);
        due("p31 twenty", y.squires(0), 0);
        due("p31 ten", y.squires(1), 10);
        due("p32 one hand", x.held(5, 1, 1), 1);
        due("p32 nine hands", x.held(30, 9, 0), 277464);
        due("p32 nine hands, 1 each", x.held(30, 9, 1), 142740);
        due("p32 nine of nine", x.held(9, 9, 1), 1);
        due("p32 too few fingers", x.held(8, 9, 1), 0);
        for (int[] w : new int[][] {{0, 1, 0}, {31, 1, 0}, {1, 0, 0}, {1, 10, 0}, {1, 1, 2}, {1, 1, -1}, {LEAST, 1, 0},
            {1, MOST, 0}}) {
            due("p32 wrong", x.held(w[0], w[1], w[2]), -1);
        }
    }

    private static void games() {
        Counted x = new Counted();
        due("p33 nothing", x.game(0), -1);
        x.put(0, 4, 0, 50);
        due("p33 4 is lost", x.game(0), -1);
        due("p33 4 is lost", x.game(1), -1);
        x.put(0, 3, 0, 30);
        due("p33 3 and 4: the 3, all", x.game(0), 1);
        due("p33 all three", x.game(1), 3);
        x.put(0, 1, 0, 10);
        due("p33 4, 3 and 1 is lost", x.game(0), -1);
        x.put(0, 5, 0, 20);
        due("p33 the least inch", x.game(0), 2);
        due("p33 one", x.game(1), 1);
        Counted y = new Counted();
        y.put(0, 4, 0, 0);
        y.put(0, 1, 0, 1);
        due("p33 of several the least inch", y.game(0), 0);
        due("p33 one", y.game(1), 1);
        due("p33 another what", y.game(2), -1);
        due("p33 another what", y.game(-1), -1);
    }

    /** Five days are gone; two of what can be undone are from days that the test undoes last. */
    private static Counted aged() {
        Counted x = new Counted();
        Check.tell(x, 0, "sticks 500;frees 500;slides 1;");
        Check.tell(x, 1, "on 0 wasp 3 4 at 8;on 1 wasp 3 4 at 9;on 2 fly 3 4 at 10;");
        Check.tell(x, 2, "on 1 wind 3;on 2 heat 9;on 2 dry 7;");
        x.put(0, 1, 9, 30);
        x.days(5);
        return x;
    }

    private static void doFourAndUndo(Counted x) {
        x.days(1);
        x.act(1, 3, 3);
        x.put(1, 1, 1, 0);
        x.act(0, x.inch(0, 2), 0);
        due("p34 six", x.look(14), 6);
        for (int i = 0; i < 4; i++) due("p34 undo", x.undo(), true);
    }

    private static void undone() {
        int[] then = all(aged());
        Counted x = aged();
        doFourAndUndo(x);
        same("p34", all(x), then);
        Counted y = aged();
        doFourAndUndo(y);
        due("p34 two left", y.look(14), 2);
        y.days(1);
        y.undo();
        same("p34 once more", all(y), then);
        due("p34", y.undo(), true);
        due("p34", y.undo(), true);
        due("p34 no more", y.undo(), false);
        due("p34 day 3", y.look(7), 3);
    }

    /** All that can be seen of what a day changes. */
    private static int[] all(Counted x) {
        int[] row = new int[1000];
        int n = 0;
        for (int w = 0; w < 10; w++) row[n++] = x.look(w);
        for (int i = 0; i < 60; i++) for (int w = 0; w < 3; w++) row[n++] = x.inch(i, w);
        for (int t = 0; t < 12; t++) for (int w = 0; w < 6; w++) row[n++] = x.of(t, w);
        for (int i = 0; i < 40; i++) for (int w = 0; w < 4; w++) row[n++] = x.book(i, w);
        return row;
    }

    private static void same(String call, int[] got, int[] want) {
        for (int i = 0; i < got.length; i++) due(call + " all " + i, got[i], want[i]);
    }

    private static void forgotten() {
        Counted x = new Counted();
        x.put(0, 1, 1, 0);
        x.set(0, 60, 0);
        x.set(1, 0, 0);
        Check.tell(x, 0, "frees 1;");
        Check.tell(x, 3, "strip 0 on strip 1;");
        Check.tell(x, 1, "wrong");
        Check.tell(x, 2, "wrong");
        x.text(4);
        x.kind(1);
        x.words(1, 1);
        x.sight(1);
        x.vein(0, 0, 1);
        x.image(true);
        x.days(0);
        x.goes(60, 0);
        due("p34 none of these forgets", x.look(14), 1);
        x.undo();
        due("p34 the law stays", x.look(10), 1);
        due("p34 strips stay", x.look(13), 1);
        due("p34 the row stays", x.kind(1), 2);
        x.put(0, 1, 1, 0);
        x.set(0, 5, 50);
        due("p34 set forgets", x.look(14), 0);
        x.put(0, 1, 1, 1);
        x.state(0);
        due("p34 state forgets", x.undo(), false);
        x.put(0, 1, 1, 2);
        x.text(1);
        due("p34 flight forgets", x.undo(), false);
        x.put(0, 1, 1, 3);
        x.text(2);
        due("p34 sky forgets", x.undo(), false);
        x.put(0, 1, 1, 4);
        x.image(false);
        due("p34 the image gone back to forgets", x.undo(), false);
    }

    private static Counted told() {
        Counted x = new Counted();
        x.put(2, 3, 4, 5);
        x.days(2);
        Check.tell(x, 0, "frees 7;");
        Check.tell(x, 3, "strip 0 on strip 1;");
        x.kind(2);
        x.words(1, 1);
        x.sight(5);
        x.vein(0, 0, 1);
        return x;
    }

    private static void changeAll(Counted x) {
        x.undo();
        x.put(1, 1, 1, 1);
        x.days(3);
        x.state(99);
        x.set(4, 0, 3);
        x.set(5, 0, 3);
        x.act(0, 0, 0);
        x.text(0);
        x.text(3);
        Check.tell(x, 1, "on 0 fly 1 1 at 1;");
        Check.tell(x, 2, "on 0 wind 1;");
        x.kind(3);
        x.words(-1, 0);
        x.sight(-1);
        x.vein(0, -1, 0);
        x.vein(1, 3, 4);
        Check.feed(x, "frees");
        x.text(0);
        Check.feed(x, "slides 3");
    }

    private static void images() {
        int[] then = all(told());
        for (int rounds = 1; rounds <= 2; rounds++) {
            Counted x = told();
            due("p35 taken", x.image(true), true);
            due("p35 what can be undone stays", x.look(14), 3);
            for (int round = 0; round < rounds; round++) {
                changeAll(x);
                due("p35 gone back", x.image(false), true);
                due("p35 the fault stays", x.fault(1), 5);
                due("p35 the tape stays", x.end(8), true);
                x.end(0);
            }
            same("p35", all(x), then);
        }
        Counted y = told();
        y.image(true);
        for (int round = 0; round < 2; round++) {
            changeAll(y);
            due("p35 gone back", y.image(false), true);
            y.end(0);
            due("p35 law", y.of(0, 7), 7);
            due("p35 texts", y.look(10) + 10 * y.look(11) + 100 * y.look(12) + 1000 * y.look(13), 1001);
            due("p35 row", y.says(0), 1);
            due("p35 word", y.words(0, 0), -1);
            due("p35 word", y.words(2, 2), 2);
            due("p35 look", y.cover(1), 1);
            due("p35 wings", y.wings(1), 0);
            due("p35 wing 1", y.vein(1, 6, 7), 1);
            due("p35 wings", y.wings(1), 1440);
            due("p35 nothing to undo", y.look(14), 0);
        }
    }

    private static void looks() {
        Counted x = new Counted();
        for (int w : new int[] {-1, 15, LEAST, MOST}) due("p36 another what", x.look(w), -1);
        x.put(0, 1, 1, 0);
        x.put(0, 1, 1, 1);
        x.act(0, 0, 0);
        due("p36 things", x.look(0), 1);
        due("p36 came", x.look(1), 2);
        due("p36 read", x.look(3), 1);
        due("p36 lines", x.look(8), 3);
        due("p36 undo", x.look(14), 3);
    }
}
