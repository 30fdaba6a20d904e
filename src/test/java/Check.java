/** Counts the answers that are not as due, and tells texts to a record. */
final class Check {
    private final String name;
    private int asked = 0;
    private int wrong = 0;

    Check(String name) {
        this.name = name;
    }

    void due(String call, long got, long want) {
        asked++;
        if (got != want) {
            wrong++;
            System.out.println(name + ": " + call + " answered " + got + ", due is " + want);
        }
    }

    void due(String call, boolean got, boolean want) {
        due(call, got ? 1 : 0, want ? 1 : 0);
    }

    void finish() {
        System.out.println(name + ": " + asked + " answers, " + wrong + " not as due");
        if (wrong != 0 || asked == 0) {
            System.exit(1);
        }
    }

    /** The text comes behind the TAPE. */
    static void feed(Counted x, String text) {
        int length = 0;
        for (int at = 0; at < text.length(); at += 20) {
            int[] v = numbers(text, at);
            length = x.feed(v[0], v[1], v[2], v[3], v[4]);
        }
        int spare = (20 - text.length() % 20) % 20;
        x.end(length - spare);
    }

    /** Five numbers of the twenty signs from a place on, blanks behind the end. */
    static int[] numbers(String text, int at) {
        int[] v = new int[5];
        for (int i = 0; i < 20; i++) {
            int c = at + i < text.length() ? text.charAt(at + i) : ' ';
            v[i / 4] = v[i / 4] << 8 | c & 255;
        }
        return v;
    }

    static int tell(Counted x, int k, String text) {
        feed(x, text);
        return x.text(k);
    }
}
