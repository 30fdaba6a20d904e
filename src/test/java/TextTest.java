import java.util.List;

/**
 * Terms 2 as far as a text can be wrong, and the TAPE. In a text told here a bar marks the place of the FAULT and is
 * not itself fed; one without a bar is well.
 */
public final class TextTest {
    private static final Check CHECK = new Check("TextTest");
    private static final int LEAST = Integer.MIN_VALUE;
    private static final int MOST = Integer.MAX_VALUE;
    private static final int LAW = 0;
    private static final int FLIGHT = 1;
    private static final int SKY = 2;
    private static final int STRIPS = 3;
    private static final String[] SMALL = {"frees 1;", "on 0 fly 1 0 at 0;", "on 0 dry 1;", "strip 0 on strip 1;"};

    private TextTest() {
    }

    private static void due(String call, long got, long want) {
        CHECK.due(call, got, want);
    }

    private static void due(String call, boolean got, boolean want) {
        CHECK.due(call, got, want);
    }

    public static void main(String[] args) {
        emptyTexts();
        tapeBounds();
        bytesInOrder();
        endBounds();
        tapeIsEmptyThen();
        noSuchText();
        faultOfTheLatest();
        oneTextAloneIsTold();
        keywordsOfTheLaw();
        keywordsOfFlight();
        keywordsOfSky();
        keywordsOfStrips();
        lettersAndDigits();
        everySign();
        blanks();
        theEnd();
        lawParts();
        flightParts();
        skyParts();
        stripParts();
        flightNumbers();
        skyNumbers();
        stripNumbers();
        partsByZero();
        seventeenLines();
        nineOpen();
        theFirstByItsPlace();
        theLongest();
        CHECK.finish();
    }

    private static String unmarked(String marked) {
        return marked.replace("|", "");
    }

    private static void well(int k, String text, int lines) {
        Counted x = new Counted();
        due("text " + k + ": " + text, Check.tell(x, k, text), lines);
        due("fault of " + text, x.fault(0), 0);
        due("place of " + text, x.fault(1), -1);
        due("lines of " + text, x.look(10 + k), lines);
        due("the tape is empty after " + text, x.end(1), false);
    }

    private static void fault(int k, int what, String marked) {
        Counted x = new Counted();
        String text = unmarked(marked);
        due("text " + k + ": " + marked, Check.tell(x, k, text), -1);
        due("fault of " + marked, x.fault(0), what);
        due("place of " + marked, x.fault(1), marked.indexOf('|'));
        due("lines of " + marked, x.look(10 + k), 0);
        due("the tape is empty after " + marked, x.end(1), false);
    }

    /** "TEXTS (empty at first)": and a text of no lines is well. */
    private static void emptyTexts() {
        for (int k = 0; k < 4; k++) {
            well(k, "", 0);
            well(k, " ", 0);
            well(k, "\n \n", 0);
            fault(k, 1, "|;");
            well(k, SMALL[k], 1);
            well(k, SMALL[k] + "\n" + SMALL[k], 2);
            fault(k, 1, SMALL[k] + "|;");
        }
    }

    /** "how many it has. NONE, and nothing comes, if there would be more than 400". */
    private static void tapeBounds() {
        Counted x = new Counted();
        for (int i = 1; i <= 20; i++) due("feed", x.feed(0x20202020, 0x20202020, 0x20202020, 0x20202020, 0x20202020), 20 * i);
        due("420", x.feed(0x78787878, 0, 0, 0, 0), -1);
        due("nothing came", x.end(401), false);
        due("all 400", x.end(400), true);
        due("399", x.end(399), true);
        due("419", x.feed(0, 0, 0, 0, 0), -1);
        due("nothing came", x.end(400), false);
        due("381", x.end(381), true);
        due("401", x.feed(0, 0, 0, 0, 0), -1);
        due("380", x.end(380), true);
        due("400", x.feed(0x20202020, 0x20202020, 0x20202020, 0x20202020, 0x20202078), 400);
        due("420", x.feed(0, 0, 0, 0, 0), -1);
        due("the last byte is read", x.text(SKY), -1);
        due("at 399", x.fault(1), 399);
        due("fed anew", x.feed(0, 0, 0, 0, 0), 20);
    }

    /** "of each number the highest first": a byte's place is the FAULT's, with signs above 127 too. */
    private static void bytesInOrder() {
        for (int place = 0; place < 20; place++) {
            for (int sign : new int[] {'x', 255, 128, 0}) {
                int[] v = {0x20202020, 0x20202020, 0x20202020, 0x20202020, 0x20202020};
                int shift = 24 - place % 4 * 8;
                v[place / 4] = v[place / 4] & ~(255 << shift) | sign << shift;
                Counted x = new Counted();
                due("feed", x.feed(v[0], v[1], v[2], v[3], v[4]), 20);
                due("text", x.text(FLIGHT), -1);
                due("sign " + sign, x.fault(0), 1);
                due("its place", x.fault(1), place);
            }
        }
        Counted y = new Counted();
        Check.feed(y, "frees 1");
        Check.feed(y, "23;");
        due("one text of two feeds", y.text(LAW), 1);
        y.put(0, 1, 0, 0);
        due("123", y.of(0, 7), 123);
    }

    /** "The TAPE has its first n bytes alone: true; false, changing nothing, if it has not so many, or n is below 0". */
    private static void endBounds() {
        Counted x = new Counted();
        for (int n : new int[] {LEAST, -1, 1, 20, MOST}) due("an empty tape's " + n, x.end(n), false);
        due("an empty tape's 0", x.end(0), true);
        Check.feed(x, "frees 77;frees 88;xyz");
        for (int n : new int[] {LEAST, -1, 22, 400, 401, MOST}) due("of 21: " + n, x.end(n), false);
        due("of 21: all", x.end(21), true);
        due("of 21: 18", x.end(18), true);
        due("of 18: 19", x.end(19), false);
        due("text", x.text(LAW), 2);
        Check.feed(x, "frees 77;frees 88;xyz");
        due("9", x.end(9), true);
        due("text", x.text(LAW), 1);
        Check.feed(x, "frees 77;");
        due("7", x.end(7), true);
        Check.feed(x, "5;");
        due("what was cut is not there any more", x.text(LAW), 1);
        x.put(0, 1, 0, 0);
        due("75", x.of(0, 7), 75);
        Check.feed(x, "x");
        due("0", x.end(0), true);
        due("no lines", x.text(LAW), 0);
    }

    /** "(the TEXT stays as it was; the TAPE is empty in each case)". */
    private static void tapeIsEmptyThen() {
        for (int k = 0; k < 4; k++) {
            Counted x = new Counted();
            due("told", Check.tell(x, k, SMALL[k] + SMALL[k]), 2);
            due("empty", x.end(1), false);
            due("a fault", Check.tell(x, k, SMALL[k] + SMALL[k] + SMALL[k] + "x"), -1);
            due("empty", x.end(1), false);
            due("stays", x.look(10 + k), 2);
            due("told", Check.tell(x, k, SMALL[k]), 1);
            due("another one", x.look(10 + k), 1);
            due("none is fed", x.text(k), 0);
            due("none", x.look(10 + k), 0);
        }
        Counted y = new Counted();
        y.put(0, 1, 0, 0);
        Check.tell(y, LAW, "frees 321;");
        Check.tell(y, LAW, "frees 5;frees 6;frees");
        due("the law stays", y.of(0, 7), 321);
        Check.tell(y, FLIGHT, "on 0 fly 1 0 at 9;");
        Check.tell(y, FLIGHT, "on 0 fly 1 0 at 10;on 0 fly");
        Check.tell(y, SKY, "on 0 wind 0;on 0 heat 3;");
        Check.tell(y, SKY, "on 0 heat 9;on 0 wind 9;on");
        Check.tell(y, LAW, "sticks 1000;frees 0;slides 0;");
        y.days(1);
        due("the flight stays", y.inch(9, 2), 1);
        due("the flight stays", y.inch(10, 2), -1);
        due("the sky stays", y.look(5), 3);
        Check.tell(y, STRIPS, "strip 4 on strip 5;");
        Check.tell(y, STRIPS, "strip 5 on strip 4;strip");
        due("the strips stay", y.order(35), 16);
    }

    /** "NONE: no such one (fault() tells 0)". */
    private static void noSuchText() {
        for (int k : new int[] {LEAST, -1, 4, 5, MOST}) {
            Counted x = new Counted();
            Check.tell(x, LAW, "x");
            due("a fault", x.fault(0), 1);
            due("text " + k, Check.tell(x, k, "x"), -1);
            due("fault", x.fault(0), 0);
            due("place", x.fault(1), -1);
            due("the tape is empty", x.end(1), false);
            due("text " + k, Check.tell(x, k, SMALL[0]), -1);
            due("text " + k, x.text(k), -1);
            for (int w = 10; w < 14; w++) due("no lines", x.look(w), 0);
        }
    }

    /** "Of the latest text() what 0 the FAULT (0 without one), 1 its place (NONE). NONE for another what." */
    private static void faultOfTheLatest() {
        Counted x = new Counted();
        due("ahead of all", x.fault(0), 0);
        due("ahead of all", x.fault(1), -1);
        Check.tell(x, SKY, " on 0 dry 0;");
        due("fault 2", x.fault(0), 2);
        due("at 10", x.fault(1), 10);
        Check.feed(x, "frees");
        due("not read yet: 2", x.fault(0), 2);
        x.text(LAW);
        due("fault 1", x.fault(0), 1);
        due("at 5", x.fault(1), 5);
        Check.tell(x, LAW, "frees 1;");
        due("none", x.fault(0), 0);
        due("none", x.fault(1), -1);
        for (int w : new int[] {LEAST, -1, 2, 3, MOST}) due("fault what " + w, x.fault(w), -1);
    }

    /** A text that is told leaves the other three as they were. */
    private static void oneTextAloneIsTold() {
        for (int k = 0; k < 4; k++) {
            Counted x = new Counted();
            for (int j = 0; j < 4; j++) Check.tell(x, j, SMALL[j].repeat(j + 1));
            x.text(k);
            for (int j = 0; j < 4; j++) due("lines of " + j, x.look(10 + j), j == k ? 0 : j + 1);
        }
    }

    private static final List<String> NUMBERS = List.of("kind", "size", "life", "inch", "glue", "age", "limbs", "wind",
        "heat", "near", "day");
    private static final List<String> ALL = List.of("sticks", "frees", "slides", "when", "or", "and", "not", "kind",
        "size", "life", "inch", "glue", "age", "limbs", "wind", "heat", "near", "day", "on", "at", "fly", "date",
        "sleeve", "word", "wasp", "veil", "boil", "dry", "strip");

    /** In the gap of the frame a KEYWORD of these can stand; one that is neither of these nor of the spared cannot. */
    private static void gap(int k, String before, String after, List<String> can, List<String> spared) {
        for (String word : ALL) {
            if (can.contains(word)) well(k, before + word + after, 1);
            else if (!spared.contains(word)) fault(k, 1, before + "|" + word + after);
        }
    }

    private static void gap(int k, String before, String after, List<String> can) {
        gap(k, before, after, can, List.of());
    }

    /** "letters as many as stand together are KEYWORDS (those told here for that text) or none". */
    private static void keywordsOfTheLaw() {
        gap(LAW, "", " 1;", List.of("sticks", "frees", "slides"));
        gap(LAW, "sticks ", ";", NUMBERS);
        gap(LAW, "frees 2*", "+1;", NUMBERS);
        gap(LAW, "slides 1 ", " 1=1;", List.of("when"));
        gap(LAW, "sticks 1 when ", " < 5;", NUMBERS, List.of("not"));
        gap(LAW, "sticks 1 when 1 = ", ";", NUMBERS);
        gap(LAW, "sticks 1 when 1=1 ", " 1=1;", List.of("or", "and"));
        gap(LAW, "sticks 1 when (", " 1=1);", List.of("not"), NUMBERS);
        gap(LAW, "sticks 1/", ";", List.of());
    }

    private static void keywordsOfFlight() {
        gap(FLIGHT, "", " 0 fly 1 0 at 0;", List.of("on"));
        gap(FLIGHT, "on 0 ", " 1 0 at 0;", List.of("fly", "date", "sleeve", "word", "wasp", "veil"));
        gap(FLIGHT, "on 0 fly 1 0 ", " 0;", List.of("at"));
        gap(FLIGHT, "on ", " fly 1 0 at 0;", List.of());
        Counted x = new Counted();
        Check.tell(x, LAW, "sticks 1000;frees 0;slides 0;");
        Check.tell(x, FLIGHT, "on 0 fly 1 0 at 0;on 0 date 1 0 at 1;on 0 sleeve 1 0 at 2;on 0 word 1 0 at 3;"
            + "on 0 wasp 1 0 at 4;on 0 veil 1 0 at 5;");
        x.days(1);
        for (int i = 0; i < 6; i++) due("kind " + i, x.of(i, 0), i);
    }

    private static void keywordsOfSky() {
        gap(SKY, "", " 0 dry 1;", List.of("on"));
        gap(SKY, "on 0 ", " 1;", List.of("wind", "heat", "dry"), List.of("boil"));
        gap(SKY, "on 0 ", " 1 1;", List.of("boil"), List.of("wind", "heat", "dry"));
        gap(SKY, "on ", " dry 1;", List.of());
    }

    /** A word with one NUMBER where two are due, and the other way round, has its FAULT behind the first NUMBER. */
    private static void gapOfSky() {
        fault(SKY, 1, "on 0 boil 1|;");
        fault(SKY, 1, "on 0 wind 1 |1;");
        fault(SKY, 1, "on 0 heat 1 |1;");
        fault(SKY, 1, "on 0 dry 1 |1;");
    }

    private static void keywordsOfStrips() {
        gap(STRIPS, "", " 0 on strip 1;", List.of("strip"));
        gap(STRIPS, "strip 0 ", " strip 1;", List.of("on"));
        gap(STRIPS, "strip 0 on ", " 1;", List.of("strip"));
    }

    /** "as many as stand together", "NUMBERS of 1 to 4 digits or none". */
    private static void lettersAndDigits() {
        for (String n : new String[] {"0", "9", "10", "99", "100", "999", "1000", "9999", "0000", "0009"}) {
            well(LAW, "sticks " + n + ";", 1);
        }
        for (String n : new String[] {"00000", "12345", "99999", "000001", "4294967297", "00000000000000000001"}) {
            fault(LAW, 1, "sticks |" + n + ";");
            fault(SKY, 1, "on 0 dry |" + n + ";");
        }
        well(LAW, "sticks1;frees2*kind;slides3when1=1and not2=2or(3=3);", 3);
        well(FLIGHT, "on0fly1 0at0;on0001date0001 0000at0009;", 2);
        well(SKY, "on0wind1;on0boil1 1;", 2);
        well(STRIPS, "strip0on strip1;strip 0000 on strip 0011;", 2);
        fault(STRIPS, 1, "strip0|onstrip1;");
        fault(LAW, 1, "|stick 1;");
        fault(LAW, 1, "|stickss 1;");
        fault(LAW, 1, "|asticks 1;");
        fault(LAW, 1, "|stic ks 1;");
        fault(LAW, 1, "|s 1;");
        fault(LAW, 1, "|sticksfrees 1;");
        fault(LAW, 1, "sticks 1 |0;");
        fault(LAW, 1, "sticks |kindsize;");
        fault(LAW, 1, "sticks 1|a;");
        fault(LAW, 1, "sticks kind|1;");
        fault(FLIGHT, 1, "on 0 |fl 1 0 at 0;");
        fault(FLIGHT, 1, "on 0 |flyfly 1 0 at 0;");
    }

    /** Each of the 256 signs behind a NUMBER: "; + - * / ( ) < = > . Blanks (32, 10) between". */
    private static void everySign() {
        for (int c = 0; c < 256; c++) {
            String before = "frees 1";
            String sign = String.valueOf((char) c);
            boolean blank = c == 32 || c == 10;
            boolean digit = c >= '0' && c <= '9';
            boolean opens = c == '+' || c == '-' || c == '*' || c == '/' || c == ';';
            Counted x = new Counted();
            int lines = Check.tell(x, LAW, before + sign + ";");
            due("lines with sign " + c, lines, blank || digit ? 1 : -1);
            due("fault with sign " + c, x.fault(0), blank || digit ? 0 : 1);
            due("place with sign " + c, x.fault(1), blank || digit ? -1 : opens ? 8 : 7);
        }
    }

    /** "Blanks (32, 10) between": any, as many as stand together, or none. */
    private static void blanks() {
        well(LAW, "\n\n  frees\n \n1\n*\n2\nwhen\n(\n1\n<\n2\n)\n;\n\n  ", 1);
        well(STRIPS, "  strip\n\n3\non\nstrip\n4\n;\n", 1);
        for (char c : new char[] {9, 11, 12, 13, 160, 133, 0}) {
            fault(LAW, 1, "frees|" + c + "1;");
            fault(LAW, 1, "|" + c + "frees 1;");
            fault(LAW, 1, "frees 1;|" + c);
        }
    }

    /** "(the end: the text's length)": at each place where a text can break off, blanks behind it counted too. */
    private static void theEnd() {
        String[] whole = {"frees kind * 2 / 3 + 1 when not ( 1 < 2 and 3 = 4 or 5 > 6 ) ;",
            "on 0 fly 1 0 at 0 ;", "on 0 boil 1 2 ;", "strip 0 on strip 1 ;"};
        for (int k = 0; k < 4; k++) {
            for (int n = whole[k].indexOf(' '); n < whole[k].length(); n++) {
                if (whole[k].charAt(n) == ' ') {
                    fault(k, 1, whole[k].substring(0, n) + "|");
                    fault(k, 1, whole[k].substring(0, n) + " \n|");
                }
            }
            well(k, whole[k], 1);
            fault(k, 1, whole[k] + whole[k].substring(0, whole[k].indexOf(' ')) + "|");
        }
    }

    /** "THE LAW = {(sticks | frees | slides) E [when B] ;}" and what E and B are made of. */
    private static void lawParts() {
        fault(LAW, 1, "frees |;");
        fault(LAW, 1, "frees |+1;");
        fault(LAW, 1, "frees |-1;");
        fault(LAW, 1, "frees |(1);");
        fault(LAW, 1, "frees 1+|;");
        fault(LAW, 1, "frees 1*|;");
        fault(LAW, 1, "frees 1*|-1;");
        fault(LAW, 1, "frees 1+|(1);");
        fault(LAW, 1, "frees 1/|;");
        fault(LAW, 1, "frees 1/|kind;");
        fault(LAW, 1, "frees 1|=1;");
        fault(LAW, 1, "frees 1 |not 1=1;");
        fault(LAW, 1, "frees 1 when |;");
        fault(LAW, 1, "frees 1 when 1|;");
        fault(LAW, 1, "frees 1 when 1=|;");
        fault(LAW, 1, "frees 1 when 1=1|=1;");
        fault(LAW, 1, "frees 1 when 1<|=1;");
        fault(LAW, 1, "frees 1 when |=1;");
        fault(LAW, 1, "frees 1 when 1=1 and |;");
        fault(LAW, 1, "frees 1 when 1=1 or |;");
        fault(LAW, 1, "frees 1 when |and 1=1;");
        fault(LAW, 1, "frees 1 when 1=1 |not 1=1;");
        fault(LAW, 1, "frees 1 when 1=1 |(1=1);");
        fault(LAW, 1, "frees 1 when 1=1 |when 1=1;");
        fault(LAW, 1, "frees 1 when (|);");
        fault(LAW, 1, "frees 1 when (1|);");
        fault(LAW, 1, "frees 1 when (1=1|;");
        fault(LAW, 1, "frees 1 when 1=1|);");
        fault(LAW, 1, "frees 1 when (1=1)|);");
        fault(LAW, 1, "frees 1 when (1|)=1;");
        fault(LAW, 1, "frees 1 when not |;");
        fault(LAW, 1, "frees 1 |frees 2;");
        well(LAW, "frees 1 when (1=1) and (1=1);", 1);
        well(LAW, "frees 1 when not (1=1) or not not 1=1;", 1);
    }

    private static void flightParts() {
        fault(FLIGHT, 1, "on |;");
        fault(FLIGHT, 1, "on |fly 1 0 at 0;");
        fault(FLIGHT, 1, "on 0 |1 0 at 0;");
        fault(FLIGHT, 1, "on 0 fly |at 0;");
        fault(FLIGHT, 1, "on 0 fly 1 |at 0;");
        fault(FLIGHT, 1, "on 0 fly 1 0 |0;");
        fault(FLIGHT, 1, "on 0 fly 1 0 at |;");
        fault(FLIGHT, 1, "on 0 fly 1 0 at 0 |0;");
        fault(FLIGHT, 1, "on 0 fly 1 0 at 0 |on 0 fly 1 0 at 0;");
        fault(FLIGHT, 1, "on |-1 fly 1 0 at 0;");
        fault(FLIGHT, 1, "|0 fly 1 0 at 0;");
    }

    private static void skyParts() {
        gapOfSky();
        fault(SKY, 1, "on 0 |;");
        fault(SKY, 1, "on 0 wind |;");
        fault(SKY, 1, "on 0 boil |;");
        fault(SKY, 1, "on 0 |1;");
        fault(SKY, 1, "on 0 dry |wind;");
        fault(SKY, 1, "on 0 dry 1 |on 0 dry 1;");
    }

    private static void stripParts() {
        fault(STRIPS, 1, "strip |on strip 1;");
        fault(STRIPS, 1, "strip 0 |strip 1;");
        fault(STRIPS, 1, "strip 0 on |1;");
        fault(STRIPS, 1, "strip 0 on strip |;");
        fault(STRIPS, 1, "strip 0 on strip 1 |on strip 2;");
        fault(STRIPS, 1, "strip 0 on strip 1 |strip 0 on strip 1;");
    }

    /** "(DAY 0 .. 999, SIZE 1 .. 9, LIFE 0 .. 9.)", INCH 0 .. 59: 2 "(at the NUMBER)". */
    private static void flightNumbers() {
        for (String day : new String[] {"0", "1", "998", "999"}) well(FLIGHT, "on " + day + " fly 1 0 at 0;", 1);
        for (String day : new String[] {"1000", "1001", "9999"}) fault(FLIGHT, 2, "on |" + day + " fly 1 0 at 0;");
        for (int size = 1; size <= 9; size++) well(FLIGHT, "on 0 fly " + size + " 0 at 0;", 1);
        for (String size : new String[] {"0", "00", "10", "9999"}) fault(FLIGHT, 2, "on 0 fly |" + size + " 0 at 0;");
        for (int life = 0; life <= 9; life++) well(FLIGHT, "on 0 fly 1 " + life + " at 0;", 1);
        for (String life : new String[] {"10", "11", "9999"}) fault(FLIGHT, 2, "on 0 fly 1 |" + life + " at 0;");
        for (String inch : new String[] {"0", "1", "58", "59"}) well(FLIGHT, "on 0 fly 1 0 at " + inch + ";", 1);
        for (String inch : new String[] {"60", "61", "9999"}) fault(FLIGHT, 2, "on 0 fly 1 0 at |" + inch + ";");
    }

    /** "(wind, heat 0 .. 9; boil 0 .. 99; dry 1 .. 99.)". */
    private static void skyNumbers() {
        for (String word : new String[] {"wind", "heat"}) {
            for (int v = 0; v <= 9; v++) well(SKY, "on 0 " + word + " " + v + ";", 1);
            for (String v : new String[] {"10", "11", "9999"}) fault(SKY, 2, "on 0 " + word + " |" + v + ";");
        }
        for (String v : new String[] {"0", "1", "98", "99"}) well(SKY, "on 0 boil 59 " + v + ";", 1);
        for (String v : new String[] {"100", "101", "9999"}) fault(SKY, 2, "on 0 boil 59 |" + v + ";");
        for (String i : new String[] {"0", "58", "59"}) well(SKY, "on 0 boil " + i + " 5;", 1);
        for (String i : new String[] {"60", "61", "9999"}) fault(SKY, 2, "on 0 boil |" + i + " 5;");
        for (String v : new String[] {"1", "2", "98", "99"}) well(SKY, "on 0 dry " + v + ";", 1);
        for (String v : new String[] {"0", "000", "100", "9999"}) fault(SKY, 2, "on 0 dry |" + v + ";");
        for (String day : new String[] {"0", "998", "999"}) well(SKY, "on " + day + " dry 1;", 1);
        for (String day : new String[] {"1000", "9999"}) fault(SKY, 2, "on |" + day + " dry 1;");
    }

    /** "(0 .. 11; unlike.)", "the same strip again (of one line)". */
    private static void stripNumbers() {
        for (int a = 0; a < 12; a++) {
            int b = (a + 1) % 12;
            well(STRIPS, "strip " + a + " on strip " + b + ";", 1);
            fault(STRIPS, 2, "strip " + a + " on strip |" + a + ";");
            fault(STRIPS, 2, "strip 00" + a + " on strip |" + a + ";");
        }
        for (String v : new String[] {"12", "13", "9999"}) {
            fault(STRIPS, 2, "strip |" + v + " on strip 0;");
            fault(STRIPS, 2, "strip 0 on strip |" + v + ";");
            fault(STRIPS, 2, "strip |" + v + " on strip " + v + ";");
        }
        well(STRIPS, "strip 1 on strip 2;strip 1 on strip 2;strip 2 on strip 1;", 3);
    }

    /** "2 (at the NUMBER) a part by 0". */
    private static void partsByZero() {
        for (String zero : new String[] {"0", "00", "0000"}) {
            fault(LAW, 2, "frees 1/|" + zero + ";");
            fault(LAW, 2, "frees 1*2+3/ |" + zero + " when 1=1;");
            fault(LAW, 2, "frees 1 when 1=kind/|" + zero + ";");
        }
        fault(LAW, 2, "frees 1/1/|0;");
        fault(LAW, 1, "frees 1/|00000;");
        well(LAW, "frees 1/1;frees 0/1;frees 0*0;frees 0-0;frees 1/0001;frees 1/9999;", 6);
    }

    /** "16 lines of each at most", "3 (at its KEYWORD) the 17th line of a text". */
    private static void seventeenLines() {
        for (int k = 0; k < 4; k++) {
            well(k, SMALL[k].repeat(15), 15);
            well(k, SMALL[k].repeat(16), 16);
            well(k, SMALL[k].repeat(16) + "\n ", 16);
            fault(k, 3, SMALL[k].repeat(16) + "|" + SMALL[k]);
            fault(k, 3, SMALL[k].repeat(16) + " \n |" + SMALL[k].substring(0, SMALL[k].indexOf(' ')));
            fault(k, 1, SMALL[k].repeat(16) + "|;");
            fault(k, 1, SMALL[k].repeat(16) + " |x");
            fault(k, 1, SMALL[k].repeat(16) + "|0");
            fault(k, 1, SMALL[k].repeat(16) + "|at 5;");
            fault(k, 1, SMALL[k].repeat(15) + SMALL[k].substring(0, SMALL[k].length() - 1) + "|");
        }
        for (String word : new String[] {"sticks", "frees", "slides"}) {
            fault(LAW, 3, "sticks 1;frees 1;slides 1;frees 2;".repeat(4) + "|" + word + " 1;");
        }
        fault(LAW, 1, "frees 1;".repeat(16) + "|on 0 dry 1;");
        fault(SKY, 1, "on 0 dry 1;".repeat(16) + "|strip 0 on strip 1;");
    }

    /** "(at it) the 9th ( or not that is open". */
    private static void nineOpen() {
        String law = "frees 1 when ";
        for (int nots = 0; nots <= 8; nots++) {
            String open = "not ".repeat(nots) + "(".repeat(8 - nots);
            String shut = ")".repeat(8 - nots) + ";";
            well(LAW, law + open + "1=1" + shut, 1);
            fault(LAW, 3, law + open + "|(1=1)" + shut);
            fault(LAW, 3, law + open + "|not 1=1" + shut);
            if (nots < 8) fault(LAW, 3, law + open + "1=1 and |not 1=1" + shut);
        }
        well(LAW, law + "((((1=1)))) and ((((((((1=1)))))))) or not not not not not not not not 1=1;", 1);
        well(LAW, law + "(((((((" + "(1=1) and (1=1) or not 1=1" + ")))))));", 1);
        fault(LAW, 3, law + "(((((((" + "(1=1) and (1=1 or |(1=1))" + ")))))));");
        fault(LAW, 3, law + "(((((((" + "not |not 1=1" + ")))))));");
        well(LAW, law + "not (not (not (not (1=1 or 1=1))));", 1);
        fault(LAW, 3, law + "not (not (not (not (1=1 or |not 1=1))));");
        well(LAW, law + "(1=1) and ".repeat(9) + "not 1=1 or ".repeat(10) + "1=1;", 1);
        well(LAW, "frees 1 when ((((((((1=1))))))));".repeat(9), 9);
        for (String word : NUMBERS) {
            well(LAW, law + "((((((((" + word + "=1))))))));", 1);
            well(LAW, law + "not ".repeat(8) + word + "=" + word + ";", 1);
        }
        for (String word : List.of("and", "or", "when", "sticks", "frees", "slides", "on")) {
            fault(LAW, 1, law + "((((((((|" + word + " 1=1))))))));");
            fault(LAW, 1, law + "not ".repeat(8) + "|" + word + " 1=1;");
        }
        fault(LAW, 1, law + "((((((((|)))))))));");
        fault(LAW, 1, law + "((((((((|;");
        fault(LAW, 1, law + "((((((((|");
    }

    /** "FAULTS, the first by its place, at one place the least". */
    private static void theFirstByItsPlace() {
        fault(FLIGHT, 2, "on |1000 fly 0 10 at 60 60;");
        fault(FLIGHT, 2, "on 0 fly |0 10 at 60;");
        fault(FLIGHT, 2, "on 0 fly 1 |10 on 60;");
        fault(FLIGHT, 1, "on 0 fly 1 0 |on 60;");
        fault(FLIGHT, 1, "on 0 |bee 0 10 at 60;");
        fault(SKY, 2, "on |1000 x");
        fault(SKY, 2, "on 0 boil |60 100;");
        fault(STRIPS, 2, "strip |12 on strip 12");
        fault(LAW, 2, "frees 1/|0 1;");
        fault(LAW, 1, "frees 1 |1/0;");
        fault(LAW, 2, "frees 1/|0" + " when ((((((((((1=1;");
        fault(LAW, 1, "frees 1 when ((((((((1=1 |(1=1;");
        fault(LAW, 1, "frees 1 when ((((((((1=|(1;");
        fault(LAW, 1, "frees 1 when not not not not not not not not 1=|not 1;");
        fault(LAW, 3, "frees 1 when ((((((((|(12345=1/0;");
        fault(LAW, 1, "frees 1 when ((((((((|12345=1/0;");
        fault(LAW, 1, "frees |\u00e9 when ((((((((((");
        fault(LAW, 3, "frees 1;".repeat(16) + "|frees 1/0;");
        fault(LAW, 2, "frees 1;".repeat(15) + "frees 1/|0;" + "frees 1;");
    }

    /** A text of all 400 bytes, in many tokens and in one. */
    private static void theLongest() {
        well(LAW, "frees 1" + "+1".repeat(196) + ";", 1);
        fault(LAW, 1, "frees 1" + "+1".repeat(196) + "+|");
        well(LAW, " ".repeat(392) + "frees 1;", 1);
        fault(LAW, 1, "|" + "z".repeat(400));
        fault(LAW, 1, "|" + "1".repeat(400));
        fault(STRIPS, 1, "|" + ";".repeat(400));
        fault(LAW, 1, "frees |" + "(".repeat(394));
        fault(LAW, 3, "frees 1 when ((((((((|" + "(".repeat(379));
        well(LAW, "frees 1 when 1=1" + " or 1=1".repeat(54) + "     ;", 1);
        well(LAW, "frees 1when1=1" + "or1=1".repeat(77) + ";", 1);
        well(LAW, "frees 1when1=1" + "and1=1".repeat(64) + ";", 1);
        fault(LAW, 1, "frees 1when1=1" + "and1=1".repeat(64) + "|o");
        Counted x = new Counted();
        Check.tell(x, LAW, "frees 1" + "+1".repeat(196) + ";");
        x.put(0, 1, 0, 0);
        due("197", x.of(0, 7), 197);
        for (int i = 0; i < 10; i++) {
            due("well", Check.tell(x, LAW, "frees 2" + "*1".repeat(190) + "+" + i + ";"), 1);
            due("its value", x.of(0, 7), 2 + i);
            due("a fault", Check.tell(x, LAW, "frees 2" + "*1".repeat(190) + "+;"), -1);
            due("its value", x.of(0, 7), 2 + i);
        }
    }
}
