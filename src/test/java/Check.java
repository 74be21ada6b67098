/** What the tests share: a count of wrong answers, and texts put on the tape of an object. */
final class Check {
    private final String title;
    private int asked = 0;
    private int wrong = 0;

    Check(String title) {
        this.title = title;
    }

    void due(String call, long got, long want) {
        asked++;
        if (got != want) {
            wrong++;
            if (wrong <= 40) {
                System.out.println(title + ": " + call + " answered " + got + ", due is " + want);
            }
        }
    }

    void holds(String what, boolean so) {
        due(what, so ? 1 : 0, 1);
    }

    void finish() {
        System.out.println(title + ": " + asked + " answers, " + wrong + " wrong");
        if (wrong != 0 || asked == 0) {
            System.exit(1);
        }
    }

    /** Puts a text behind what the tape has, which must be nothing, and tells it. */
    static int tell(MarkedChains x, String text) {
        put(x, text);
        return x.tell();
    }

    static void put(MarkedChains x, String text) {
        int[] five = new int[5];
        for (int at = 0; at < text.length(); at += 20) {
            fill(five, text, at);
            x.feed(five[0], five[1], five[2], five[3], five[4]);
        }
        x.end(text.length());
    }

    static void fill(int[] five, String text, int at) {
        for (int i = 0; i < 5; i++) {
            five[i] = 0;
            for (int j = 0; j < 4; j++) {
                int place = at + 4 * i + j;
                int sign = place < text.length() ? text.charAt(place) : 0;
                five[i] = five[i] << 8 | sign;
            }
        }
    }

    static MarkedChains of(String text) {
        MarkedChains x = new MarkedChains();
        int told = tell(x, text);
        if (told < 3) {
            throw new IllegalStateException("text of a test that is none: " + text + ": " + told);
        }
        return x;
    }
}
