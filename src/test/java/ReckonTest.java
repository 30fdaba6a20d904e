/** Terms 4 as far as it needs no THING: STRIPS, looks, wings, dates and hands, promises 22 to 28 and 32. */
public final class ReckonTest {
    private static final Check CHECK = new Check("ReckonTest");
    private static final int LEAST = Integer.MIN_VALUE;
    private static final int MOST = Integer.MAX_VALUE;
    private static final int[] MONTHS = {31, 28, 31, 30, 31, 30, 31, 31, 30, 31, 30, 31};

    private ReckonTest() {
    }

    private static void due(String call, long got, long want) {
        CHECK.due(call, got, want);
    }

    public static void main(String[] args) {
        orderOfNothing();
        orderBounds();
        orderOfTwo();
        orderOfAChain();
        orderOfBranches();
        orderOfRounds();
        orderToldAnew();
        lookBounds();
        fewestLooks();
        leastSetOfLooks();
        veinBounds();
        wingsWithoutVeins();
        wingsOfOneVein();
        wingsByEachVein();
        wingsOfManyVeins();
        wingsThatAreUnlike();
        everyDay();
        noSuchDay();
        daysBetween();
        handBounds();
        handsByFormula();
        CHECK.finish();
    }

    private static Counted strips(String text) {
        Counted x = new Counted();
        due("strips " + text, Check.tell(x, 3, text), text.isEmpty() ? 0 : text.split(";").length);
        return x;
    }

    /** "the strips that can be first of all 12 (on none)", "strips on which none lies". */
    private static void orderOfNothing() {
        Counted x = strips("");
        due("first", x.order(0), 4095);
        due("rounds", x.order(1), 0);
        due("tops", x.order(2), 4095);
        for (int s = 0; s < 12; s++) {
            due("earliest " + s, x.order(10 + s), 0);
            due("under " + s, x.order(30 + s), 0);
        }
    }

    /** "10 + s", "30 + s", s 0 .. 11; "NONE for another what". */
    private static void orderBounds() {
        Counted x = strips("strip 0 on strip 11;");
        for (int w : new int[] {LEAST, -1, 3, 9, 22, 23, 29, 42, 43, MOST}) due("another what " + w, x.order(w), -1);
        due("the first earliest", x.order(10), 1);
        due("the last earliest", x.order(21), 0);
        due("the first under", x.order(30), 0);
        due("the last under", x.order(41), 1);
        due("first", x.order(0), 4094);
        due("tops", x.order(2), 2047);
        Counted y = strips("strip 11 on strip 0;");
        due("the first earliest", y.order(10), 0);
        due("the last earliest", y.order(21), 1);
        due("the first under", y.order(30), 2048);
        due("the last under", y.order(41), 0);
        due("first", y.order(0), 2047);
        due("tops", y.order(2), 4094);
    }

    /** "(a on b: b was there ahead of a)": each two strips. */
    private static void orderOfTwo() {
        for (int a = 0; a < 12; a++) {
            for (int b = 0; b < 12; b++) {
                if (a == b) continue;
                Counted x = strips("strip " + a + " on strip " + b + ";");
                due("first", x.order(0), 4095 - (1 << a));
                due("rounds", x.order(1), 0);
                due("tops", x.order(2), 4095 - (1 << b));
                for (int s = 0; s < 12; s++) {
                    due("earliest", x.order(10 + s), s == a ? 1 : 0);
                    due("under", x.order(30 + s), s == b ? 1 << a : 0);
                }
            }
        }
    }

    /** "EARLIEST: the least place at which a strip can be (0 .. 11)"; "all that lie on it, on these, and so on". */
    private static void orderOfAChain() {
        StringBuilder up = new StringBuilder();
        StringBuilder down = new StringBuilder();
        for (int s = 0; s < 11; s++) {
            up.append("strip ").append(s + 1).append(" on strip ").append(s).append(";");
            down.insert(0, "strip " + s + " on strip " + (s + 1) + ";");
        }
        Counted x = strips(up.toString());
        Counted y = strips(down.toString());
        for (int s = 0; s < 12; s++) {
            due("up: earliest " + s, x.order(10 + s), s);
            due("up: under " + s, x.order(30 + s), 4095 - (2 << s) + 1);
            due("down: earliest " + s, y.order(10 + s), 11 - s);
            due("down: under " + s, y.order(30 + s), (1 << s) - 1);
        }
        due("up: first", x.order(0), 1);
        due("up: tops", x.order(2), 2048);
        due("down: first", y.order(0), 2048);
        due("down: tops", y.order(2), 1);
        due("no rounds", x.order(1) + y.order(1), 0);
    }

    /** "(how many must be ahead of it)": each strip once, by however many ways it is ahead; a line may be told twice. */
    private static void orderOfBranches() {
        Counted x = strips("strip 5 on strip 4;strip 5 on strip 3;strip 4 on strip 2;strip 3 on strip 2;strip 2 on strip 9;"
            + "strip 5 on strip 9;strip 5 on strip 9;strip 7 on strip 3;");
        int[] earliest = {0, 0, 1, 2, 2, 4, 0, 3, 0, 0, 0, 0};
        int[] under = {0, 0, 0b10111000, 0b10100000, 0b100000, 0, 0, 0, 0, 0b10111100, 0, 0};
        for (int s = 0; s < 12; s++) {
            due("earliest " + s, x.order(10 + s), earliest[s]);
            due("under " + s, x.order(30 + s), under[s]);
        }
        due("first", x.order(0), 0b111101000011);
        due("tops", x.order(2), 0b110111100011);
        due("rounds", x.order(1), 0);
    }

    /** "ROUNDS: strips that are ahead of themselves"; "(NONE: it comes on a round)". */
    private static void orderOfRounds() {
        Counted x = strips("strip 1 on strip 2;strip 2 on strip 1;strip 3 on strip 1;strip 4 on strip 3;strip 2 on strip 0;"
            + "strip 6 on strip 5;strip 11 on strip 10;strip 10 on strip 9;strip 9 on strip 11;strip 8 on strip 6;");
        due("rounds", x.order(1), 0b111000000110);
        int[] earliest = {0, -1, -1, -1, -1, 0, 1, 0, 2, -1, -1, -1};
        int[] under = {0b11110, 0b11110, 0b11110, 0b10000, 0, 0b101000000, 0b100000000, 0, 0, 0b111000000000,
            0b111000000000, 0b111000000000};
        for (int s = 0; s < 12; s++) {
            due("earliest " + s, x.order(10 + s), earliest[s]);
            due("under " + s, x.order(30 + s), under[s]);
        }
        due("first", x.order(0), 0b000010100001);
        due("tops", x.order(2), 0b000110010000);
        StringBuilder all = new StringBuilder();
        for (int s = 0; s < 12; s++) all.append("strip ").append(s).append(" on strip ").append((s + 5) % 12).append(";");
        Counted y = strips(all.toString());
        due("all on a round", y.order(1), 4095);
        due("none first", y.order(0), 0);
        due("none on top", y.order(2), 0);
        for (int s = 0; s < 12; s++) {
            due("earliest " + s, y.order(10 + s), -1);
            due("under " + s, y.order(30 + s), 4095);
        }
    }

    /** Of what was told before nothing is left. */
    private static void orderToldAnew() {
        Counted x = strips("strip 0 on strip 1;strip 1 on strip 2;strip 2 on strip 0;");
        due("rounds", x.order(1), 7);
        due("earliest", x.order(10), -1);
        Check.tell(x, 3, "strip 3 on strip 0;");
        due("no rounds", x.order(1), 0);
        due("earliest 0", x.order(10), 0);
        due("earliest 3", x.order(13), 1);
        due("under 0", x.order(30), 8);
        due("first", x.order(0), 4095 - 8);
        due("tops", x.order(2), 4094);
        Check.tell(x, 3, "strip 3 on strip 3;");
        due("as before", x.order(30), 8);
        x.text(3);
        due("none", x.order(30), 0);
        due("first", x.order(0), 4095);
        due("tops", x.order(2), 4095);
    }

    /** "(up to 8; 12 bits)", "(strips NONE: none is then): how many; NONE if one can't be, or there are eight". */
    private static void lookBounds() {
        Counted x = new Counted();
        due("none yet", x.cover(0), 0);
        due("no set yet", x.cover(1), 0);
        for (int s : new int[] {LEAST, -4096, -2, 4096, 4097, 8191, MOST}) due("look " + s, x.sight(s), -1);
        due("none yet", x.sight(-1), 0);
        int[] can = {1, 2, 2048, 4095, 4094, 2047, 3, 1};
        for (int i = 0; i < 8; i++) due("look " + can[i], x.sight(can[i]), i + 1);
        due("the ninth", x.sight(1), -1);
        due("a wrong ninth", x.sight(4096), -1);
        due("one shows all", x.cover(0), 1);
        due("the fourth", x.cover(1), 8);
        for (int w : new int[] {LEAST, -1, 2, MOST}) due("another what " + w, x.cover(w), -1);
        due("none then", x.sight(-1), 0);
        due("none then", x.cover(0), 0);
        due("none then", x.cover(1), 0);
        due("the first", x.sight(2048), 1);
        due("one", x.cover(0), 1);
        due("the first", x.cover(1), 1);
    }

    private static void cover(int many, int set, int... looks) {
        Counted x = new Counted();
        for (int l : looks) x.sight(l);
        due("how many of " + looks.length, x.cover(0), many);
        due("which of " + looks.length, x.cover(1), set);
    }

    /** "the fewest looks that show all strips shown at all". */
    private static void fewestLooks() {
        cover(1, 1, 1);
        cover(2, 3, 1, 2);
        cover(1, 4, 1, 2, 3);
        cover(2, 5, 3, 6, 12, 9);
        cover(2, 0b110, 0b001111, 0b010101, 0b101010);
        cover(3, 0b111, 0b111100000000, 0b000011110000, 0b000000001111);
        cover(8, 255, 1, 2, 4, 8, 16, 32, 64, 128);
        cover(8, 255, 16, 32, 64, 128, 256, 512, 1024, 2048);
        cover(7, 0b11111110, 1, 3, 4, 8, 16, 32, 64, 128);
        cover(1, 128, 0, 0, 0, 0, 0, 0, 0, 4095);
        cover(2, 0b10000001, 2047, 1, 1, 1, 1, 1, 1, 2048);
    }

    /** "the set (of several the least)": and of one that shows nothing none is needed. */
    private static void leastSetOfLooks() {
        cover(1, 1, 7, 7);
        cover(1, 2, 3, 7, 7);
        cover(2, 3, 1, 6, 3, 4);
        cover(2, 0b110, 1, 6, 9, 8, 6);
        cover(2, 6, 1, 12, 3, 14);
        cover(2, 0b1001, 1, 4, 2, 14, 12);
        cover(2, 0b101, 0b0111, 0b0011, 0b1100, 0b1000);
    }

    /** "(up to 9 each, from point 0 .. 7 to another one)"; "NONE if one can't be (alike), or there are nine". */
    private static void veinBounds() {
        for (int wing = 0; wing <= 1; wing++) {
            Counted x = new Counted();
            for (int p : new int[] {LEAST, -2, 8, 9, MOST}) {
                due("from " + p, x.vein(wing, p, 1), -1);
                due("to " + p, x.vein(wing, 1, p), -1);
            }
            due("to none", x.vein(wing, 0, -1), -1);
            for (int p = 0; p <= 7; p++) due("alike " + p, x.vein(wing, p, p), -1);
            for (int w : new int[] {LEAST, -1, 2, 3, MOST}) {
                due("wing " + w, x.vein(w, 0, 1), -1);
                due("wing " + w + " none", x.vein(w, -1, 0), -1);
            }
            due("still as new", x.wings(1), 40320);
            int[][] can = {{0, 7}, {7, 0}, {0, 1}, {6, 7}, {1, 2}, {1, 2}, {2, 3}, {4, 5}, {3, 4}};
            for (int i = 0; i < 9; i++) due("vein " + i, x.vein(wing, can[i][0], can[i][1]), i + 1);
            due("the tenth", x.vein(wing, 0, 1), -1);
            due("a wrong tenth", x.vein(wing, 0, 8), -1);
            due("the other wing has none", x.vein(1 - wing, 5, 6), 1);
            due("none then", x.vein(wing, -1, LEAST), 0);
            due("the other wing has one", x.vein(1 - wing, 5, 7), 2);
            due("the first", x.vein(wing, 7, 0), 1);
        }
    }

    /** "(of the 40320 numberings ...)". */
    private static void wingsWithoutVeins() {
        Counted x = new Counted();
        due("whether", x.wings(0), 1);
        due("all numberings", x.wings(1), 40320);
        for (int w : new int[] {LEAST, -1, 2, MOST}) due("another what " + w, x.wings(w), -1);
        x.vein(0, 0, 1);
        due("one and none", x.wings(0) + x.wings(1), 0);
        x.vein(0, -1, 0);
        x.vein(1, 0, 1);
        due("none and one", x.wings(0) + x.wings(1), 0);
        x.vein(1, -1, 0);
        due("none again", x.wings(1), 40320);
    }

    /** "veins either way, several between two count as one". */
    private static void wingsOfOneVein() {
        for (int a = 0; a < 8; a++) {
            for (int b = 0; b < 8; b++) {
                if (a == b) continue;
                Counted x = new Counted();
                x.vein(0, a, b);
                x.vein(1, 2, 5);
                due("one vein each", x.wings(1), 2 * 720);
                x.vein(0, b, a);
                x.vein(0, a, b);
                due("told again", x.wings(1), 2 * 720);
                due("whether", x.wings(0), 1);
                x.vein(1, 0, 7);
                due("one and two", x.wings(0) + x.wings(1), 0);
            }
        }
    }

    /** Which points have no vein may be unlike in the two wings. */
    private static void wingsByEachVein() {
        for (int a = 0; a < 8; a++) {
            for (int b = a + 1; b < 8; b++) {
                Counted x = new Counted();
                x.vein(0, a, b);
                for (int c = 0; c < 8; c++) {
                    for (int d = c + 1; d < 8; d++) {
                        x.vein(1, c, d);
                        due("vein " + a + b + " and " + c + d, x.wings(1), 2 * 720);
                        x.vein(1, -1, 0);
                    }
                }
            }
        }
    }

    private static void wings(int want, int[] veins, int[] otherVeins) {
        Counted x = new Counted();
        for (int i = 0; i + 1 < veins.length; i += 2) x.vein(0, veins[i], veins[i + 1]);
        for (int i = 0; i + 1 < otherVeins.length; i += 2) x.vein(1, otherVeins[i], otherVeins[i + 1]);
        due("by how many numberings", x.wings(1), want);
        due("whether", x.wings(0), want > 0 ? 1 : 0);
    }

    private static void wingsOfManyVeins() {
        wings(2 * 120, new int[] {0, 1, 1, 2}, new int[] {3, 7, 4, 3});
        wings(2 * 120, new int[] {5, 6, 6, 7}, new int[] {1, 0, 0, 2});
        wings(1, new int[] {0, 1, 0, 2, 2, 3, 0, 4, 4, 5, 5, 6}, new int[] {7, 6, 7, 5, 5, 4, 7, 3, 3, 2, 2, 1});
        wings(1, new int[] {7, 6, 7, 5, 5, 4, 7, 3, 3, 2, 2, 1}, new int[] {1, 4, 4, 0, 6, 2, 3, 6, 6, 1, 5, 3});
        wings(8 * 24, new int[] {0, 1, 2, 3}, new int[] {7, 5, 6, 4});
        wings(6 * 120, new int[] {0, 1, 1, 2, 2, 0}, new int[] {5, 6, 5, 7, 7, 6});
        wings(384, new int[] {0, 1, 2, 3, 4, 5, 6, 7}, new int[] {0, 4, 1, 5, 2, 6, 3, 7});
        wings(2, new int[] {0, 1, 1, 2, 2, 3, 3, 4, 4, 5, 5, 6, 6, 7}, new int[] {7, 0, 0, 6, 6, 1, 1, 5, 5, 2, 2, 4, 4, 3});
        wings(5040, new int[] {7, 0, 7, 1, 7, 2, 7, 3, 7, 4, 7, 5, 7, 6}, new int[] {0, 3, 1, 3, 2, 3, 4, 3, 5, 3, 6, 3, 7, 3});
        wings(72 * 2, new int[] {0, 3, 0, 4, 0, 5, 1, 3, 1, 4, 1, 5, 2, 3, 2, 4, 2, 5},
            new int[] {1, 0, 3, 0, 5, 0, 1, 2, 3, 2, 5, 2, 1, 4, 3, 4, 5, 4});
    }

    private static void wingsThatAreUnlike() {
        wings(0, new int[] {0, 1, 1, 2, 2, 3}, new int[] {0, 1, 0, 2, 0, 3});
        wings(0, new int[] {0, 1, 1, 2, 2, 0}, new int[] {0, 1, 1, 2, 2, 3});
        wings(0, new int[] {0, 1, 1, 2}, new int[] {0, 1, 2, 3});
        wings(0, new int[] {0, 1, 1, 2, 2, 3, 3, 4, 4, 5, 5, 0}, new int[] {0, 1, 1, 2, 2, 0, 3, 4, 4, 5, 5, 3});
        wings(0, new int[] {0, 1, 0, 2, 0, 3, 3, 4, 4, 5}, new int[] {0, 1, 0, 2, 0, 3, 1, 4, 3, 5});
    }

    private static int monthDays(int y, int m) {
        return m == 2 && y % 4 == 0 && (y % 100 != 0 || y % 400 == 0) ? 29 : MONTHS[m - 1];
    }

    /** Each day from the first to the last one: the weekday goes on by one, the days between too; and the day behind a month's last is none. */
    private static void everyDay() {
        int weekday = 5;
        int passed = 0;
        for (int y = 1700; y <= 2099; y++) {
            for (int m = 1; m <= 12; m++) {
                Counted x = new Counted();
                int month = y * 10000 + m * 100;
                due("day 0 of " + month, x.weekday(month), -1);
                for (int d = 1; d <= monthDays(y, m); d++) {
                    due("weekday " + (month + d), x.weekday(month + d), weekday);
                    due("days to " + (month + d), x.between(17000101, month + d), passed);
                    due("days back from " + (month + d), x.between(month + d, 17000101), -passed);
                    weekday = (weekday + 1) % 7;
                    passed++;
                }
                due("behind the last of " + month, x.weekday(month + monthDays(y, m) + 1), -1);
                due("behind the last of " + month, x.between(17000101, month + monthDays(y, m) + 1), -1000000);
            }
        }
        due("400 years", passed, 146097);
    }

    /** "day d (1 .. 31), month m (1 .. 12), year y (1700 .. 2099)", "by that calendar now in use". */
    private static void noSuchDay() {
        Counted x = new Counted();
        int[] none = {16991231, 17000000, 17000001, 17000100, 17001301, 17009901, 17000132, 17000199, 17000229, 18000229,
            19000229, 20000230, 20010229, 20960230, 20990229, 20990431, 20990631, 20990931, 20991131, 20991232, 20991301,
            21000101, 21000100, 99991231, 0, 1, -1, 101, -17000101, -20000101, 1700, 170001, 20000, LEAST, MOST};
        for (int d : none) {
            due("weekday " + d, x.weekday(d), -1);
            due("from " + d, x.between(d, 20000101), -1000000);
            due("to " + d, x.between(20000101, d), -1000000);
            due("both " + d, x.between(d, d), -1000000);
        }
        int[][] known = {{17000101, 5}, {17000228, 0}, {17000301, 1}, {20000229, 2}, {20000301, 3}, {19700101, 4},
            {20240229, 4}, {20261119, 4}, {20991231, 4}, {19000228, 3}, {19000301, 4}};
        for (int[] k : known) due("weekday " + k[0], x.weekday(k[0]), k[1]);
    }

    /** "days from one to another one (below 0: back)". */
    private static void daysBetween() {
        Counted x = new Counted();
        int[][] rows = {{17000101, 17000101, 0}, {20991231, 20991231, 0}, {17000101, 20991231, 146096}, {20000228, 20000301, 2},
            {20010228, 20010301, 1}, {19000228, 19000301, 1}, {20001231, 20010101, 1}, {20000101, 20001231, 365},
            {20010101, 20011231, 364}, {20000101, 20010101, 366}};
        for (int[] r : rows) {
            due("days", x.between(r[0], r[1]), r[2]);
            due("back", x.between(r[1], r[0]), -r[2]);
        }
    }

    /** "HELD of n (1 .. 30) fingers by k (1 .. 9) hands". */
    private static void handBounds() {
        Counted x = new Counted();
        for (int n : new int[] {LEAST, -1, 0, 31, 32, MOST}) for (int w = 0; w <= 1; w++) due("n " + n, x.held(n, 6, w), -1);
        for (int k : new int[] {LEAST, -1, 0, 10, 11, MOST}) for (int w = 0; w <= 1; w++) due("k " + k, x.held(6, k, w), -1);
        for (int w : new int[] {LEAST, -1, 2, MOST}) due("another what " + w, x.held(6, 6, w), -1);
        for (int n = 1; n <= 30; n++) {
            due("one hand, " + n, x.held(n, 1, 0), n <= 5 ? 1 : 0);
            due("one hand, 1 at least, " + n, x.held(n, 1, 1), n <= 5 ? 1 : 0);
        }
        for (int k = 1; k <= 9; k++) {
            due("one finger, " + k, x.held(1, k, 0), k);
            due("one finger, 1 at least, " + k, x.held(1, k, 1), k == 1 ? 1 : 0);
            due("a finger each, " + k, x.held(k, k, 1), 1);
            if (k > 1) due("one too few, " + k, x.held(k - 1, k, 1), 0);
            if (k <= 6) due("all five, " + k, x.held(5 * k, k, 0), 1);
            if (k <= 6) due("all five, 1 at least, " + k, x.held(5 * k, k, 1), 1);
            if (k <= 5) due("one too many, " + k, x.held(5 * k + 1, k, 0), 0);
            if (k <= 6) due("all but one, " + k, x.held(5 * k - 1, k, 0), k);
        }
    }

    private static long choose(int n, int k) {
        if (k < 0 || k > n) return 0;
        long c = 1;
        for (int i = 1; i <= k; i++) c = c * (n - k + i) / i;
        return c;
    }

    /** Hands that may hold any number less those of which one, two .. hold too many. */
    private static long ways(int n, int k, int each) {
        long all = 0;
        for (int i = 0; i <= k; i++) {
            long part = choose(k, i) * choose(n - i * (each + 1) + k - 1, k - 1);
            all += n - i * (each + 1) < 0 ? 0 : i % 2 == 0 ? part : -part;
        }
        return all;
    }

    private static void handsByFormula() {
        for (int k = 1; k <= 9; k++) {
            Counted x = new Counted();
            for (int n = 1; n <= 30; n++) {
                due("held " + n + " by " + k, x.held(n, k, 0), ways(n, k, 5));
                due("held " + n + " by " + k + ", 1 at least", x.held(n, k, 1), n < k ? 0 : ways(n - k, k, 4));
            }
        }
    }
}
