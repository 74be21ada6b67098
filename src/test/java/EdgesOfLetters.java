/** Boundary cases of what is asked of SETS, LETTERS and MARKS: promises 16 to 25, 33 to 37, 40 to 42. */
final class EdgesOfLetters {
    /**
     * Liars 1 (the sender) and 4. Round 1: 1-0 value 2 [1]. Round 2: 0 relays 2 [1 0] to 1, 2, 3, 4;
     * then 4-2 value 0 [1 4]. Behind it 0 has {2}, 2 has {0, 2}, 3 has {2}.
     */
    private static final String PARTED =
            "play 5;sender 1;rounds 2;default 3;liar 1 4;letter 1 1 0 2:1;letter 2 4 2 0:1 4";
    private static final Edges.Scene IN_PARTED = () -> Check.of(PARTED);

    /** All honest: 2 tells 3 in two rounds. */
    private static final String HONEST = "play 4;sender 2;value 3;rounds 2";

    private final Edges e;

    private EdgesOfLetters(Edges e) {
        this.e = e;
    }

    static void run(Edges e) {
        EdgesOfLetters t = new EdgesOfLetters(e);
        t.set();
        t.decision();
        t.extracted();
        t.extractedRefused();
        t.letter();
        t.letterUse();
        t.mark();
        t.packed();
        t.open();
        t.openNone();
        t.sent();
        t.forged();
        t.known();
        t.holders();
        t.path();
        t.caught();
        t.bits();
        t.load();
        t.count();
        t.planned();
        t.fault();
    }

    private void set() {
        e.says(16, "The SET of an honest PARTY behind a ROUND (0 to ROUNDS; 0: ahead of the first), as bits of VALUES");
        MarkedChains x = Check.of(PARTED);
        int[][] wants = {{0, 4, 4}, {}, {0, 0, 5}, {0, 0, 4}, {}};
        for (int p = 0; p < 5; p++) {
            for (int r = 0; r < wants[p].length; r++) {
                e.due("set(" + p + ", " + r + ")", x.set(p, r), wants[p][r]);
            }
        }
        for (int rounds = 1; rounds <= 8; rounds++) {
            x = Check.of("play 3;value 3;rounds " + rounds);
            e.due("behind the last of " + rounds, x.set(2, rounds), 8);
            e.due("behind one more", x.set(2, rounds + 1), -1);
        }
        e.says(16, "NONE without these, of a LIAR");
        x = Check.of(PARTED);
        for (int r = 0; r <= 2; r++) {
            e.due("a liar", x.set(1, r), -1);
            e.due("a liar", x.set(4, r), -1);
            e.due("one behind the last", x.set(5, r), -1);
            e.due("party -1", x.set(-1, r), -1);
        }
        e.due("behind -1", x.set(0, -1), -1);
        e.due("behind 3", x.set(0, 3), -1);
        e.due("behind 8", x.set(0, 8), -1);
        e.due("behind 9", x.set(0, 9), -1);
        e.wraps("set", IN_PARTED, (y, a) -> y.set(a[0], a[1]), 3, 2);
        e.wraps("set", IN_PARTED, (y, a) -> y.set(a[0], a[1]), 0, 0);
    }

    private void decision() {
        e.says(17, "The DECISION of an honest PARTY; NONE without it, of a LIAR");
        MarkedChains x = Check.of(PARTED);
        int[] wants = {2, -1, 3, 2, -1, -1};
        for (int p = 0; p < wants.length; p++) {
            e.due("decision(" + p + ")", x.decision(p), wants[p]);
        }
        e.due("decision(-1)", x.decision(-1), -1);
        e.wraps("decision", IN_PARTED, (y, a) -> y.decision(a[0]), 3);
        x = Check.of("play 8;value 3");
        e.due("the last of 8", x.decision(7), 3);
        e.due("one behind it", x.decision(8), -1);
    }

    private void extraction(MarkedChains x, int party, int value, int... wants) {
        for (int what = 0; what < 4; what++) {
            e.due("extracted(" + party + ", " + value + ", " + what + ")", x.extracted(party, value, what), wants[what]);
        }
    }

    private void extracted() {
        e.says(18, "the ROUND (0: it had it as SENDER), 1: from whom (NONE: ROUND 0), 2: how many MARKS the LETTER had "
                + "(0: ROUND 0), 3: .. (.. 0: ROUND 0)");
        extraction(Check.of(HONEST), 2, 3, 0, -1, 0, 0);
        extraction(Check.of("play 8;sender 7;cut 1"), 7, 0, 0, -1, 0, 0);
        extraction(Check.of(HONEST), 0, 3, 1, 2, 1, 1);
        extraction(Check.of(PARTED), 2, 0, 2, 4, 2, 1);
        MarkedChains x = Check.of("play 8;rounds 7;liar 0 1 2 3 4 5 6;letter 7 5 7 3:0 1 2 3 4 6 5");
        extraction(x, 7, 3, 7, 5, 7, 1);
        x = Check.of("play 8;rounds 7;liar 0 1 2 3 4 5;letter 6 5 6 3:0 1 2 3 4 5");
        extraction(x, 7, 3, 7, 6, 7, 1);
        e.says(18, "3: 1 if it is one that it relays (also in the last ROUND, where nothing is sent any more)");
        x = Check.of("play 3;liar 0;rounds 1;cut 1;letter 1 0 1 3:0;letter 1 0 1 1:0");
        e.due("in the last round", x.extracted(1, 1, 3), 1);
        e.due("behind the cut", x.extracted(1, 3, 3), 0);
        e.due("nothing is sent any more", x.sent(2), 0);
        x.settle(4, 2);
        e.due("with a cut of 2", x.extracted(1, 3, 3), 1);
        e.says(18, "-2: it did not");
        x = Check.of(PARTED);
        for (int what = 0; what < 4; what++) {
            e.due("another value", x.extracted(0, 0, what), -2);
            e.due("another value", x.extracted(3, 3, what), -2);
            e.due("the sender, another value", Check.of(HONEST).extracted(2, 0, what), -2);
        }
    }

    private void extractedRefused() {
        e.says(18, "NONE without these, of a LIAR");
        MarkedChains x = Check.of(PARTED);
        for (int value = 0; value < 4; value++) {
            for (int what = 0; what < 4; what++) {
                e.due("a liar", x.extracted(1, value, what), -1);
                e.due("one behind the last", x.extracted(5, value, what), -1);
                e.due("party -1", x.extracted(-1, value, what), -1);
            }
            e.due("what 4", x.extracted(0, value, 4), -1);
            e.due("what -1", x.extracted(0, value, -1), -1);
        }
        e.due("value 4", x.extracted(0, 4, 0), -1);
        e.due("value -1", x.extracted(0, -1, 0), -1);
        e.wraps("extracted", IN_PARTED, (y, a) -> y.extracted(a[0], a[1], a[2]), 3, 2, 3);
        e.wraps("extracted", IN_PARTED, (y, a) -> y.extracted(a[0], a[1], a[2]), 0, 0, 0);
    }

    private void letter() {
        e.says(19, "Of the k-th LETTER of all that were sent, in their order, what 0: .. 6");
        MarkedChains x = Check.of(PARTED);
        e.letter(x, 0, 1, 1, 0, 2, 1, 1, 2);
        e.letter(x, 1, 2, 0, 1, 2, 2, 2, 0);
        e.letter(x, 5, 2, 4, 2, 0, 2, 2, 2);
        e.says(19, "k NONE, what 0: how many");
        e.due("six", x.letter(-1, 0), 6);
        e.due("none", Check.of("play 3;liar 0").letter(-1, 0), 0);
        e.says(19, "NONE without these");
        e.due("letter(6, 0)", x.letter(6, 0), -1);
        e.due("letter(-2, 0)", x.letter(-2, 0), -1);
        for (int k = 0; k < 6; k++) {
            e.due("what 7", x.letter(k, 7), -1);
            e.due("what -1", x.letter(k, -1), -1);
        }
        for (int what = 1; what <= 6; what++) {
            e.due("letter(-1, " + what + ")", x.letter(-1, what), -1);
            e.due("letter(6, " + what + ")", x.letter(6, what), -1);
        }
        e.due("letter(-1, -1)", x.letter(-1, -1), -1);
        e.due("letter(0, 0) of none", Check.of("play 3;liar 0").letter(0, 0), -1);
        e.wraps("letter", IN_PARTED, (y, a) -> y.letter(a[0], a[1]), 5, 6);
        e.wraps("letter", IN_PARTED, (y, a) -> y.letter(a[0], a[1]), -1, 0);
    }

    private void letterUse() {
        e.says(19, "5: the ROUND in which it comes (NONE: it does not)");
        MarkedChains x = Check.of("play 4;value 1;rounds 2;late 1 0 1 1;late 1 0 3 2;omit 1 0 2");
        e.due("in the last", x.letter(0, 5), 2);
        e.due("omitted", x.letter(1, 5), -1);
        e.due("behind the last", x.letter(2, 5), -1);
        e.says(19, "6: 1 if it COUNTS there, 2 if it does and is EXTRACTED, else 0 (LIARS: 0)");
        for (int k = 0; k < 3; k++) {
            e.due("it comes too late or not at all", x.letter(k, 6), 0);
        }
        x = Check.of("play 4;value 1;rounds 2;liar 3");
        int[] use = {2, 2, 0, 1, 1, 0, 1, 1, 0};
        e.due("how many", x.letter(-1, 0), use.length);
        for (int k = 0; k < use.length; k++) {
            e.due("letter(" + k + ", 6)", x.letter(k, 6), use[k]);
        }
    }

    private void mark() {
        e.says(20, "The i-th MARK of the k-th LETTER");
        MarkedChains x = Check.of("play 8;liar 0 1 2 3 4 5 6 7;letter 1 7 0 2:7 0 6 1 5 2 4 3;letter 1 7 0 2:7");
        int[] marks = {7, 0, 6, 1, 5, 2, 4, 3};
        for (int i = 0; i < 8; i++) {
            e.due("mark(0, " + i + ")", x.mark(0, i), marks[i]);
        }
        e.due("mark(1, 0)", x.mark(1, 0), 7);
        e.says(20, "NONE without these");
        e.due("mark(0, 8)", x.mark(0, 8), -1);
        e.due("mark(0, -1)", x.mark(0, -1), -1);
        e.due("mark(1, 1)", x.mark(1, 1), -1);
        e.due("mark(2, 0)", x.mark(2, 0), -1);
        e.due("mark(-1, 0)", x.mark(-1, 0), -1);
        e.due("of none", Check.of("play 3;liar 0").mark(0, 0), -1);
        e.wraps("mark", IN_PARTED, (y, a) -> y.mark(a[0], a[1]), 5, 1);
    }

    private void packed() {
        e.says(21, "The k-th LETTER packed: its VALUE and 4 times, of its MARKS from the last one to the first, what there "
                + "is times 9 and the MARK and 1");
        MarkedChains x = Check.of(PARTED);
        long[] wants = {2 + 4 * 2, 46, 46, 46, 46, 4 * (9 * 5 + 2)};
        for (int k = 0; k < wants.length; k++) {
            e.due("packed(" + k + ")", x.packed(k), wants[k]);
        }
        x = Check.of("play 8;liar 0 1 2 3 4 5 6 7;letter 1 7 0 0:0;letter 1 7 0 3:7;letter 1 7 0 3:0 1 2 3 4 5 6 7;"
                + "letter 1 7 0 0:7 6 5 4 3 2 1 0");
        e.due("the least", x.packed(0), 4);
        e.due("the greatest of one mark", x.packed(1), 35);
        e.due("the greatest of eight", x.packed(2), 3 + 4L * Long.parseLong("87654321", 9));
        e.due("the least of eight", x.packed(3), 4L * Long.parseLong("12345678", 9));
        e.says(21, "NONE without it");
        e.due("packed(4)", x.packed(4), -1);
        e.due("packed(-1)", x.packed(-1), -1);
        e.due("packed(MIN)", x.packed(Edges.MIN), -1);
        e.due("of none", Check.of("play 3;liar 0").packed(0), -1);
        e.wraps("packed", IN_PARTED, (y, a) -> y.packed(a[0]), 5);
    }

    private void open() {
        e.says(22, "Of a packed LETTER what 0: its VALUE, 1: how many MARKS, 10 to 17: the MARK 0 to 7");
        MarkedChains x = new MarkedChains();
        for (int packed = 4; packed < 36; packed++) {
            e.due("value of " + packed, x.open(packed, 0), packed % 4);
            e.due("marks of " + packed, x.open(packed, 1), 1);
            e.due("the mark of " + packed, x.open(packed, 10), packed / 4 - 1);
        }
        long up = 3 + 4L * Long.parseLong("87654321", 9);
        long down = 4L * Long.parseLong("12345678", 9);
        e.due("value", x.open(up, 0), 3);
        e.due("value", x.open(down, 0), 0);
        e.due("marks", x.open(up, 1), 8);
        for (int i = 0; i < 8; i++) {
            e.due("mark " + i, x.open(up, 10 + i), i);
            e.due("mark " + i, x.open(down, 10 + i), 7 - i);
        }
        e.says(22, "-2: it has not so many");
        for (int i = 1; i < 8; i++) {
            e.due("of one mark", x.open(4, 10 + i), -2);
        }
        long seven = 4L * Long.parseLong("7654321", 9);
        e.due("the last of seven", x.open(seven, 16), 6);
        e.due("an eighth", x.open(seven, 17), -2);
        e.says(22, "NONE .. for others");
        int[] others = {-1, 2, 3, 8, 9, 18, 19, 26, 42, Edges.MIN, Edges.MAX};
        for (int what : others) {
            e.due("what " + what, x.open(up, what), -1);
            e.due("what " + what, x.open(4, what), -1);
        }
        e.wraps("open", MarkedChains::new, (y, a) -> y.open(up, a[0]), 17);
        e.wraps("open", MarkedChains::new, (y, a) -> y.open(up, a[0]), 0);
    }

    private void none(long packed) {
        MarkedChains x = new MarkedChains();
        int[] whats = {0, 1, 10, 11, 16, 17, 18};
        for (int what : whats) {
            e.due("open(" + packed + ", " + what + ")", x.open(packed, what), -1);
        }
    }

    private static long row(String digits) {
        return 4L * Long.parseLong(digits, 9);
    }

    private void openNone() {
        e.says(22, "NONE if it is none (below 0, ..)");
        long[] below = {-1, -2, -3, -4, -5, -78, -36, Long.MIN_VALUE, Long.MIN_VALUE + 4, Edges.MIN};
        for (long packed : below) {
            none(packed);
        }
        e.says(22, "NONE if it is none (.. no MARK ..)");
        for (int packed = 0; packed < 4; packed++) {
            none(packed);
        }
        e.says(22, "NONE if it is none (.. more than 8 ..)");
        String[] nine = {"187654321", "123456781", "888888888", "111111111", "100000000", "876543211", "1876543210",
            "87654321087654321"};
        for (String digits : nine) {
            none(row(digits));
            none(row(digits) + 3);
        }
        none(Long.MAX_VALUE);
        none(Long.MAX_VALUE - 3);
        // What a number of 32 bits would take for 78, a LETTER.
        none(78L + (1L << 32));
        none(78L + (1L << 62));
        e.says(22, "NONE if it is none (.. two alike ..)");
        String[] alike = {"11", "88", "121", "122", "112", "18765431", "12345671", "87654322", "88765432"};
        for (String digits : alike) {
            none(row(digits));
            none(row(digits) + 2);
        }
        e.says(22, "NONE if it is none (.. a digit 0 with another one above it)");
        String[] zeros = {"10", "80", "100", "102", "1002", "120", "10000000", "87654320", "80654321"};
        for (String digits : zeros) {
            none(row(digits));
            none(row(digits) + 1);
        }
    }

    private void sent() {
        e.says(23, "How many LETTERS were sent in a ROUND (1 to 8); round NONE: in all");
        MarkedChains x = Check.of(PARTED);
        int[] wants = {1, 5, 0, 0, 0, 0, 0, 0};
        for (int round = 1; round <= 8; round++) {
            e.due("sent(" + round + ")", x.sent(round), wants[round - 1]);
        }
        e.due("in all", x.sent(-1), 6);
        x = Check.of("play 3;rounds 8;liar 0;letter 8 0 1 1:0");
        e.due("in the eighth", x.sent(8), 1);
        e.due("in the seventh", x.sent(7), 0);
        e.due("none at all", Check.of("play 3;liar 0").sent(-1), 0);
        e.says(23, "NONE for others");
        e.due("sent(0)", x.sent(0), -1);
        e.due("sent(9)", x.sent(9), -1);
        e.due("sent(-2)", x.sent(-2), -1);
        e.wraps("sent", IN_PARTED, (y, a) -> y.sent(a[0]), 8);
        e.wraps("sent", IN_PARTED, (y, a) -> y.sent(a[0]), -1);
    }

    private void forged() {
        e.says(24, "PLANNED LETTERS that were not sent, as bits, what 0: FORGED ones");
        MarkedChains x = Check.of(Edges.many("play 3;sender 2;liar 2", 16, "letter 1 2 0 0:0"));
        e.due("all 16", x.forged(0), 0xffff);
        e.due("none of the others", x.forged(1), 0);
        x.lies(0);
        e.due("none", x.forged(0), 0);
        e.due("all are sent", x.sent(-1), 16);
        e.says(24, "1: those of a ROUND beyond ROUNDS, or from a PARTY that is no LIAR");
        for (int round = 1; round <= 8; round++) {
            for (int rounds = 1; rounds <= 8; rounds++) {
                x = Check.of("play 3;liar 0;rounds " + rounds + ";letter " + round + " 0 1 0:0");
                e.due("of " + round + " in " + rounds, x.forged(1), round > rounds ? 1 : 0);
                e.due("forged", x.forged(0), 0);
            }
        }
        x = Check.of(Edges.many("play 3;liar 2", 16, "letter 1 0 1 0:0"));
        e.due("all 16", x.forged(1), 0xffff);
        x = Check.of("play 3;liar 2;letter 1 0 1 0:0;letter 2 2 1 0:2;letter 1 2 1 0:2;letter 2 0 1 0:0");
        e.due("the third alone is sent", x.forged(1), 0b1011);
        e.due("none planned", Check.of("play 3").forged(0) + Check.of("play 3").forged(1), 0);
        e.says(24, "NONE for others");
        e.due("forged(2)", x.forged(2), -1);
        e.due("forged(-1)", x.forged(-1), -1);
        e.wraps("forged", IN_PARTED, (y, a) -> y.forged(a[0]), 0);
        e.wraps("forged", IN_PARTED, (y, a) -> y.forged(a[0]), 1);
    }

    private void known() {
        e.says(25, "The first ROUND in which LIARS can use the MARK of a PARTY on a VALUE (a LIAR's: 0 ..)");
        MarkedChains x = Check.of("play 4;value 1;rounds 8;liar 3");
        for (int v = 0; v < 4; v++) {
            e.due("a liar's", x.known(3, v), 0);
        }
        e.due("the sender's", x.known(0, 1), 2);
        e.due("of one that relays", x.known(1, 1), 3);
        e.due("of one that relays", x.known(2, 1), 3);
        // Both the letter of round 1, late by 3, and those that were relayed have the sender's mark.
        x.late(1, 0, 3, 3);
        e.due("the first of them", x.known(0, 1), 3);
        x = Check.of("play 4;sender 1;value 2;rounds 1;liar 3");
        e.due("of the letter that came", x.known(1, 2), 2);
        e.due("of no other one", x.known(0, 2), -2);
        e.due("of no other one", x.known(2, 2), -2);
        e.says(25, "(.. it may be the one behind the last)");
        for (int rounds = 1; rounds <= 8; rounds++) {
            for (int by = 1; by <= 7; by++) {
                x = Check.of("play 3;value 1;rounds " + rounds + ";liar 2;omit 2 1 2;late 1 0 2 " + by);
                e.due("by " + by + " of " + rounds, x.known(0, 1), 1 + by <= rounds ? 2 + by : -2);
            }
        }
        e.says(25, "-2: never");
        x = Check.of("play 4;value 1;rounds 1;liar 3");
        e.due("it relays behind the last", x.known(1, 1), -2);
        e.due("of another value", x.known(0, 0), -2);
        x = Check.of("play 4;value 1;rounds 8");
        e.due("no liars", x.known(0, 1), -2);
        e.says(25, "NONE without these");
        e.due("party 4", x.known(4, 1), -1);
        e.due("party -1", x.known(-1, 1), -1);
        e.due("value 4", x.known(0, 4), -1);
        e.due("value -1", x.known(0, -1), -1);
        e.wraps("known", IN_PARTED, (y, a) -> y.known(a[0], a[1]), 4, 3);
        e.wraps("known", IN_PARTED, (y, a) -> y.known(a[0], a[1]), 0, 0);
    }

    private void holders() {
        e.says(33, "Honest PARTIES that have a VALUE in their SETS behind a ROUND (0 to ROUNDS), as bits");
        MarkedChains x = Check.of(PARTED);
        int[][] wants = {{0, 0, 4}, {0, 0, 0}, {0, 1, 13}, {0, 0, 0}};
        for (int v = 0; v < 4; v++) {
            for (int r = 0; r <= 2; r++) {
                e.due("holders(" + v + ", " + r + ")", x.holders(v, r), wants[v][r]);
            }
        }
        x = Check.of("play 8;sender 7;value 3;rounds 8");
        e.due("the sender alone", x.holders(3, 0), 128);
        e.due("all", x.holders(3, 1), 255);
        e.due("all behind the last", x.holders(3, 8), 255);
        e.due("none has another", x.holders(0, 8), 0);
        e.says(33, "NONE without these");
        x = Check.of(PARTED);
        e.due("value 4", x.holders(4, 0), -1);
        e.due("value -1", x.holders(-1, 0), -1);
        e.due("behind 3", x.holders(0, 3), -1);
        e.due("behind -1", x.holders(0, -1), -1);
        e.due("behind 9 of 8", Check.of("play 3;rounds 8").holders(0, 9), -1);
        e.wraps("holders", IN_PARTED, (y, a) -> y.holders(a[0], a[1]), 3, 2);
        e.wraps("holders", IN_PARTED, (y, a) -> y.holders(a[0], a[1]), 0, 0);
    }

    private void path() {
        e.says(34, "The i-th PARTY through which a VALUE came to an honest PARTY (MARKS of the LETTER), i NONE: how many "
                + "(0: it had it as SENDER)");
        MarkedChains x = Check.of("play 8;rounds 7;liar 0 1 2 3 4 5 6;letter 7 5 7 3:0 6 1 2 3 4 5");
        int[] marks = {0, 6, 1, 2, 3, 4, 5};
        e.due("how many", x.path(7, 3, -1), 7);
        for (int i = 0; i < 7; i++) {
            e.due("path(7, 3, " + i + ")", x.path(7, 3, i), marks[i]);
        }
        e.due("as sender", Check.of(HONEST).path(2, 3, -1), 0);
        e.due("of one", Check.of(HONEST).path(0, 3, -1), 1);
        e.due("of one", Check.of(HONEST).path(0, 3, 0), 2);
        e.says(34, "-2: there are not so many");
        e.due("an eighth", x.path(7, 3, 7), -2);
        e.due("a ninth", x.path(7, 3, 8), -2);
        e.due("far more", x.path(7, 3, Edges.MAX), -2);
        e.due("32 more", x.path(7, 3, 32), -2);
        e.due("as sender", Check.of(HONEST).path(2, 3, 0), -2);
        e.due("a second of one", Check.of(HONEST).path(0, 3, 1), -2);
        e.says(34, "-2: .. or it did not EXTRACT it");
        for (int i = -1; i <= 8; i++) {
            e.due("another value", x.path(7, 0, i), -2);
            e.due("the sender, another value", Check.of(HONEST).path(2, 0, i), -2);
        }
        e.says(34, "NONE without these, of a LIAR, for i below NONE");
        for (int i = -1; i <= 1; i++) {
            e.due("a liar", x.path(6, 3, i), -1);
            e.due("party 8", x.path(8, 3, i), -1);
            e.due("party -1", x.path(-1, 3, i), -1);
            e.due("value 4", x.path(7, 4, i), -1);
            e.due("value -1", x.path(7, -1, i), -1);
        }
        e.due("i -2", x.path(7, 3, -2), -1);
        e.due("i -2 of what it did not", x.path(7, 0, -2), -1);
        e.due("i MIN", x.path(7, 3, Edges.MIN), -1);
        e.wraps("path", IN_PARTED, (y, a) -> y.path(a[0], a[1], 1), 3, 2);
    }

    private void caught() {
        e.says(35, "The first ROUND by which LETTERS came to an honest PARTY that bear the SENDER's MARK on two VALUES");
        MarkedChains x = Check.of("play 3;liar 0;rounds 2;letter 1 0 1 1:0;letter 1 0 1 2:0");
        e.due("in the first", x.caught(1), 1);
        e.due("both are relayed", x.caught(2), 2);
        x.settle(4, 1);
        e.due("one is relayed", x.caught(2), -2);
        for (int rounds = 1; rounds <= 8; rounds++) {
            x = Check.of("play 3;liar 0;cut 4;rounds " + rounds + ";letter 1 0 1 1:0;letter " + rounds + " 0 1 2:0");
            e.due("in the last of " + rounds + ", though it may not count", x.caught(1), rounds);
        }
        for (int by = 1; by <= 7; by++) {
            x = Check.of("play 4;sender 3;liar 0 3;rounds 5;letter 1 0 1 1:3;letter 1 3 1 2:3;late 1 3 1 " + by);
            e.due("late by " + by, x.caught(1), 1 + by <= 5 ? 1 + by : -2);
        }
        x = Check.of("play 4;liar 0 3;letter 1 0 1 1:0;letter 1 0 1 1:0 3;letter 1 3 1 2:3");
        e.due("one value, and one without its mark", x.caught(1), -2);
        x.plan(1, 3, 1, 2, 41);
        e.due("its mark behind another one", x.caught(1), 1);
        x.omit(1, 3, 1);
        e.due("omitted", x.caught(1), -2);
        e.says(35, "(with its own VALUE, if it is the SENDER); -2: none");
        e.due("its own comes back to it", Check.of(HONEST).caught(2), -2);
        e.due("one value", Check.of(HONEST).caught(0), -2);
        e.due("no letters", Check.of("play 3;liar 0").caught(1), -2);
        e.says(35, "NONE without it, of a LIAR");
        x = Check.of(PARTED);
        e.due("a liar", x.caught(4), -1);
        e.due("the sender, a liar", x.caught(1), -1);
        e.due("party 5", x.caught(5), -1);
        e.due("party -1", x.caught(-1), -1);
        e.wraps("caught", IN_PARTED, (y, a) -> y.caught(a[0]), 2);
    }

    private void bits() {
        e.says(36, "Bits of all LETTERS sent in a ROUND (1 to 8) ..: 2 for the VALUE, 3 for how many MARKS, 3 for each MARK");
        String[] rows = {"0", "0 1", "0 1 2", "0 1 2 3", "0 1 2 3 4", "0 1 2 3 4 5", "0 1 2 3 4 5 6", "0 1 2 3 4 5 6 7"};
        for (int marks = 1; marks <= 8; marks++) {
            MarkedChains x = Check.of("play 8;rounds 8;liar 0 1 2 3 4 5 6 7;letter 8 0 1 0:" + rows[marks - 1]);
            e.due(marks + " marks", x.bits(8), 5 + 3 * marks);
            e.due("no other one", x.bits(7), 0);
            e.due("the greatest", x.bits(-1), 5 + 3 * marks);
        }
        MarkedChains x = Check.of(PARTED);
        int[] wants = {8, 55, 0, 0, 0, 0, 0, 0};
        for (int round = 1; round <= 8; round++) {
            e.due("bits(" + round + ")", x.bits(round), wants[round - 1]);
        }
        x.omit(2, 0, 1);
        e.due("omitted ones were sent", x.bits(2), 55);
        e.says(36, "round NONE: of the greatest one LETTER of all");
        e.due("two marks", x.bits(-1), 11);
        e.due("no letter", Check.of("play 3;liar 0").bits(-1), 0);
        x = Check.of("play 3;liar 0 1;letter 1 0 2 0:0 1;letter 1 0 2 0:0");
        e.due("not the last", x.bits(-1), 11);
        e.says(36, "NONE for others, without a PLAY");
        e.due("bits(0)", x.bits(0), -1);
        e.due("bits(9)", x.bits(9), -1);
        e.due("bits(-2)", x.bits(-2), -1);
        e.wraps("bits", IN_PARTED, (y, a) -> y.bits(a[0]), 8);
        for (int round = -1; round <= 8; round++) {
            e.due("without a play", new MarkedChains().bits(round), -1);
        }
    }

    private void load() {
        e.says(37, "LETTERS sent from one PARTY to another one");
        MarkedChains x = Check.of(PARTED);
        for (int from = 0; from < 5; from++) {
            for (int to = 0; to < 5; to++) {
                boolean sent = from == 0 && to != 0 || from == 1 && to == 0 || from == 4 && to == 2;
                e.due("load(" + from + ", " + to + ")", x.load(from, to), from == to ? -1 : sent ? 1 : 0);
            }
        }
        x = Check.of(Edges.many("play 8;sender 7;liar 7", 16, "letter 1 7 6 0:7"));
        e.due("16", x.load(7, 6), 16);
        e.due("the other way", x.load(6, 7), 0);
        x.omit(1, 7, 6);
        e.due("omitted ones were sent", x.load(7, 6), 16);
        e.says(37, "from NONE: the most there are of any two (to does not matter)");
        int[] any = {-1, 0, 6, 7, 8, -2, Edges.MIN, Edges.MAX};
        for (int to : any) {
            e.due("load(-1, " + to + ")", x.load(-1, to), 16);
            e.due("no letters", Check.of("play 3;liar 0").load(-1, to), 0);
            e.due("one of each", Check.of(HONEST).load(-1, to), 1);
        }
        // Three from 0 to 2, two from 2 to 0 and one more from 0 to 1: not five of both ways.
        x = Check.of("play 3;liar 0 2;letter 1 0 2 0:0;letter 1 0 2 0:0;letter 1 0 2 0:0;letter 1 2 0 0:0;letter 1 2 0 0:0;letter 1 0 1 0:0");
        e.due("of one way", x.load(-1, 0), 3);
        x = Check.of("play 3;liar 0 2;letter 1 2 0 0:0;letter 1 2 0 0:0;letter 1 0 1 0:0");
        e.due("to the first", x.load(-1, 0), 2);
        e.says(37, "NONE without these (unlike ones)");
        x = Check.of(PARTED);
        e.due("from 5", x.load(5, 0), -1);
        e.due("from -2", x.load(-2, 0), -1);
        e.due("to 5", x.load(0, 5), -1);
        e.due("to -1", x.load(0, -1), -1);
        e.due("from MIN", x.load(Edges.MIN, 0), -1);
        e.wraps("load", IN_PARTED, (y, a) -> y.load(a[0], a[1]), 4, 0);
    }

    private void count() {
        e.says(40, "What 0: PARTIES, .. 12: SHELVES on which something is KEPT, as bits");
        MarkedChains x = EdgesOfActs.rich();
        e.counts(x, 0, 5, 1, 0, 2, 2, 2, 22, 2, 2, 2, 4, 12, 3);
        e.counts(new MarkedChains(), 0, 0, 0, 0, 1, 0, 2, 0, 0, 0, 0, 0, 0, 0, 0);
        x = Check.of("play 8;sender 7;value 3;rounds 8;default 3;cut 4;liar 0 1 2 3 4 5 6 7");
        e.counts(x, 0, 8, 7, 3, 8, 3, 4, 255, 0, 0, 0, 0, 0, 0, 0);
        e.says(40, "13: LETTERS that came to honest PARTIES with fewer MARKS than the ROUND in which they came (whatever "
                + "the first MARK)");
        String[] marks = {"0", "0 3", "0 3 4", "3", "3 0", "3 0 4"};
        int[] wants = {1, 1, 0, 1, 1, 0};
        for (int i = 0; i < marks.length; i++) {
            x = Check.of("play 5;rounds 3;liar 0 3 4;letter 3 0 1 2:" + marks[i]);
            e.due("marks " + marks[i] + " in round 3", x.count(13), wants[i]);
            x.omit(3, 0, 1);
            e.due("it did not come", x.count(13), 0);
            x.undo();
            x.late(3, 0, 1, 1);
            e.due("it would come behind the last", x.count(13), 0);
            x.undo();
            x.lies(1);
            e.due("to a liar", x.count(13), 0);
        }
        x = Check.of("play 3;value 1;rounds 2;late 1 0 1 1;late 1 0 2 1");
        e.due("both came in round 2 with one mark", x.count(13), 2);
        x.drop(2, 0);
        e.due("one", x.count(13), 1);
        e.says(40, "NONE for others");
        int[] others = {-1, -2, 14, 15, 16, Edges.MIN, Edges.MAX};
        for (int what : others) {
            e.due("count(" + what + ")", x.count(what), -1);
            e.due("count(" + what + ") without a play", new MarkedChains().count(what), -1);
        }
        e.wraps("count", IN_PARTED, (y, a) -> y.count(a[0]), 13);
    }

    private void planned() {
        e.says(41, "Of a PLANNED LETTER what 0: ROUND, 1: FROM, 2: TO, 3: VALUE, 4: MARKS as plan() takes them");
        MarkedChains x = Check.of("play 8;letter 1 0 7 0:0;letter 8 7 0 3:7 6 5 4 3 2 1 0");
        e.plan(x, 0, 1, 0, 7, 0, 1);
        e.plan(x, 1, 8, 7, 0, 3, 87654321);
        e.due("taken again", x.plan(1, 0, 1, 0, x.planned(1, 4)), 2);
        e.says(41, "NONE without these");
        for (int what = 0; what <= 4; what++) {
            e.due("k 3", x.planned(3, what), -1);
            e.due("k -1", x.planned(-1, what), -1);
            e.due("of none", Check.of("play 3").planned(0, what), -1);
            e.due("without a play", new MarkedChains().planned(0, what), -1);
        }
        e.due("what 5", x.planned(0, 5), -1);
        e.due("what -1", x.planned(0, -1), -1);
        x = Check.of(Edges.many("play 3", 16, "letter 1 0 1 0:0"));
        e.due("the 16th", x.planned(15, 0), 1);
        e.due("a 17th", x.planned(16, 0), -1);
        e.wraps("planned", IN_PARTED, (y, a) -> y.planned(a[0], a[1]), 1, 4);
    }

    private void fault() {
        e.says(42, "Of an OMIT (kind 1), a LATE (2) what 0: ROUND, 1: FROM, 2: TO, 3: by how many ROUNDS (OMIT: 0)");
        MarkedChains x = Check.of("play 8;omit 1 0 7;late 8 7 0 7;omit 8 7 0;late 1 0 7 1");
        e.way(x, 1, 0, 1, 0, 7, 0);
        e.way(x, 1, 1, 8, 7, 0, 0);
        e.way(x, 2, 0, 8, 7, 0, 7);
        e.way(x, 2, 1, 1, 0, 7, 1);
        e.says(42, "NONE without these");
        x.plan(1, 0, 1, 0, 1);
        for (int what = 0; what <= 3; what++) {
            e.due("kind 0", x.fault(0, 0, what), -1);
            e.due("kind 3", x.fault(3, 0, what), -1);
            e.due("kind -1", x.fault(-1, 0, what), -1);
            for (int kind = 1; kind <= 2; kind++) {
                e.due("k 2", x.fault(kind, 2, what), -1);
                e.due("k -1", x.fault(kind, -1, what), -1);
                e.due("of none", Check.of("play 3").fault(kind, 0, what), -1);
                e.due("without a play", new MarkedChains().fault(kind, 0, what), -1);
            }
        }
        for (int kind = 1; kind <= 2; kind++) {
            e.due("what 4", x.fault(kind, 0, 4), -1);
            e.due("what -1", x.fault(kind, 0, -1), -1);
        }
        x = Check.of(Edges.many("play 3", 12, "omit #"));
        e.due("the 12th", x.fault(1, 11, 0), 4);
        e.due("a 13th", x.fault(1, 12, 0), -1);
        x = Check.of(Edges.many("play 3", 12, "late # 1"));
        e.due("the 12th", x.fault(2, 11, 0), 4);
        e.due("a 13th", x.fault(2, 12, 0), -1);
        e.wraps("fault", EdgesOfActs::rich, (y, a) -> y.fault(a[0], a[1], a[2]), 1, 1, 3);
        e.wraps("fault", EdgesOfActs::rich, (y, a) -> y.fault(a[0], a[1], a[2]), 2, 1, 3);
    }
}
