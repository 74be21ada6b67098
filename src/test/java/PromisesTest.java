/** Promise by promise: ordinary inputs, the edges that the document names, wrong inputs; worked out by hand. */
public final class PromisesTest {
    private static final Check CHECK = new Check("PromisesTest");
    private static final int MIN = Integer.MIN_VALUE;
    private static final int MAX = Integer.MAX_VALUE;

    /** All honest: 2 tells 3; 2 rounds; the letters of round 1 are 2-0, 2-1, 2-3, of round 2 nine more. */
    private static final String HONEST = "play 4;sender 2;value 3;rounds 2";

    /**
     * Liars 1 (the sender) and 4. Round 1: 1-0 value 2 [1]. Round 2: 0 relays 2 [1 0] to 1, 2, 3, 4;
     * then 4-2 value 0 [1 4]. Behind it 0 has {2}, 2 has {0, 2}, 3 has {2}.
     */
    private static final String PARTED =
            "play 5;sender 1;rounds 2;default 3;liar 1 4;letter 1 1 0 2:1;letter 2 4 2 0:1 4";

    /** 0 tells 1 to 1 late (in round 2, with one mark: it does not count) and to 2 not at all. */
    private static final String FAULTY = "play 3;value 1;rounds 2;late 1 0 1 1;omit 1 0 2";

    public static void main(String[] args) {
        newObject();
        feedAndEnd();
        tellPlays();
        tellFaults();
        tellPrefixes();
        tellLimits();
        settle();
        lies();
        plan();
        drop();
        omit();
        late();
        attack();
        trade();
        undo();
        shelves();
        sets();
        extracted();
        letters();
        packs();
        opens();
        sent();
        forged();
        known();
        together();
        parted();
        slack();
        crucial();
        least();
        holders();
        path();
        caught();
        bits();
        load();
        calm();
        heal();
        counts();
        planned();
        fault();
        withoutPlay();
        CHECK.finish();
    }

    private static void due(String call, long got, long want) {
        CHECK.due(call, got, want);
    }

    private static void counted(MarkedChains x, int... wants) {
        for (int what = 0; what < wants.length; what++) {
            due("count(" + what + ")", x.count(what), wants[what]);
        }
    }

    private static void newObject() {
        counted(new MarkedChains(), 0, 0, 0, 1, 0, 2, 0, 0, 0, 0, 0, 0, 0, 0, -1);
    }

    private static void feedAndEnd() {
        MarkedChains x = new MarkedChains();
        for (int i = 1; i <= 19; i++) {
            due("2: feed", x.feed(0, 0, 0, 0, 0), 20 * i);
        }
        due("3: end(381)", x.end(381), -1);
        due("2: the 400th", x.feed(-1, MIN, MAX, 0, 0), 400);
        due("2: more", x.feed(0, 0, 0, 0, 0), -1);
        due("2: nothing came", x.count(11), 400);
        due("3: end(400)", x.end(400), 400);
        due("3: end(401)", x.end(401), -1);
        due("3: end(-1)", x.end(-1), -1);
        due("3: end(MIN)", x.end(MIN), -1);
        due("3: nothing happened", x.count(11), 400);
        due("3: end(381)", x.end(381), 381);
        due("2: 401 are too many", x.feed(0, 0, 0, 0, 0), -1);
        due("3: end(380)", x.end(380), 380);
        due("2: feed", x.feed(0, 0, 0, 0, 0), 400);
        due("3: end(0)", x.end(0), 0);
        due("3: end(0) again", x.end(0), 0);
        due("3: end(1)", x.end(1), -1);
        // 'play', ' 3  ' and blanks: the highest byte of each number is the first.
        due("2: feed", x.feed(0x706c6179, 0x20332020, 0x20202020, 0x20202020, 0x20202020), 20);
        due("4: tell", x.tell(), 3);
        due("4: the tape is empty", x.count(11), 0);
    }

    private static void tellPlays() {
        MarkedChains x = Check.of("play 8;sender 7;value 3;rounds 8;default 2;cut 4;liar 7 0 7;liar 3");
        counted(x, 8, 7, 3, 8, 2, 4, 0b10001001, 0, 0, 0, 0, 0, 0, 0);
        x = Check.of("  play  3  ;  sender 2;sender 1 ; value 3;value 01;cut 1;rounds 2;default 3;cut 003 ");
        counted(x, 3, 1, 1, 2, 3, 3);
        x = Check.of("play3;liar0 1;letter1 0 2 3:0 1;letter 8 2 1 0 : 2 1 0;omit8 0 1;late1 1 2 7;late 1 2 1 1");
        counted(x, 3, 0, 0, 1, 0, 2, 3, 2, 1, 2, 0, 0, 0);
        due("4: letter", x.planned(0, 4), 12);
        due("4: letter", x.planned(1, 4), 321);
        due("4: an omit and a late of one way", Check.tell(x, "play 3;omit 1 0 1;late 1 0 1 1"), 3);
        due("4: nothing of the one ahead", x.count(7), 0);
        due("6: lies", x.lies(1), 1);
        due("14: keep", x.keep(1), 0);
        due("4: a play in place", Check.tell(x, "play 5"), 5);
        counted(x, 5, 0, 0, 1, 0, 2, 0, 0, 0, 0, 0, 0, 2);
        due("13: nothing can be undone", x.undo(), -1);
        due("6: lies", x.lies(4), 1);
        due("4: a fault", Check.tell(x, "play 4;x"), -2 - 57);
        counted(x, 5, 0, 0, 1, 0, 2, 16, 0, 0, 0, 1, 0, 2);
    }

    private static void wrong(String text, int place, int kind) {
        MarkedChains x = new MarkedChains();
        due("4: '" + text + "'", Check.tell(x, text), -2 - (8 * place + kind));
        due("4: the tape is empty behind '" + text + "'", x.count(11), 0);
        due("4: no play behind '" + text + "'", x.count(0), 0);
    }

    private static void tellFaults() {
        wrong("", 0, 1);
        wrong("   ", 3, 1);
        wrong("pla", 0, 1);
        wrong("Play 3", 0, 1);
        wrong(" plays 3", 1, 1);
        wrong("play", 4, 1);
        wrong("play  ", 6, 1);
        wrong("play x", 5, 1);
        wrong("play -3", 5, 1);
        wrong("play 2", 5, 2);
        wrong("play 9", 5, 2);
        wrong("play 33", 5, 2);
        wrong("play 4294967299", 5, 2);
        wrong("play 18446744073709551619", 5, 2);
        wrong("play 3 3", 7, 1);
        wrong("play 3sender 1", 6, 1);
        wrong("play 3;", 7, 1);
        wrong("play 3; ", 8, 1);
        wrong("play 3;;", 7, 1);
        wrong("play 3;liar 1;", 14, 1);
        wrong("play 3;\t", 7, 1);
        wrong("play 3" + (char) 0, 6, 1);
        wrong("play 3" + (char) 160 + ";cut 1", 6, 1);
        wrong("play 3;lia 1", 7, 1);
        wrong("play 3;liars 1", 7, 1);
        wrong("play 3;Liar 1", 7, 1);
        wrong("play 3;play 3", 7, 1);
        wrong("play 3;sender", 13, 1);
        wrong("play 3;sender;", 13, 1);
        wrong("play 3;sender 3", 14, 2);
        wrong("play 3;sender 1 1", 16, 1);
        wrong("play 3;value 4", 13, 2);
        wrong("play 3;rounds 0", 14, 2);
        wrong("play 3;rounds 9", 14, 2);
        wrong("play 3;default 4", 15, 2);
        wrong("play 3;cut 0", 11, 2);
        wrong("play 3;cut 5", 11, 2);
        wrong("play 3;liar", 11, 1);
        wrong("play 3;liar 3", 12, 2);
        wrong("play 3;liar 0 3", 14, 2);
        wrong("play 3;liar 0 : 1", 14, 1);
        wrong("play 3;liar 0 a", 14, 1);
        wrong("play 3;letter 0 0 1 0:0", 14, 2);
        wrong("play 3;letter 9 0 1 0:0", 14, 2);
        wrong("play 3;letter 1 3 1 0:0", 16, 2);
        wrong("play 3;letter 1 0 3 0:0", 18, 2);
        wrong("play 3;letter 1 1 1 0:0", 18, 2);
        wrong("play 3;letter 1 0 1 4:0", 20, 2);
        wrong("play 3;letter 1 0 1 0 0", 22, 1);
        wrong("play 3;letter 1 0 1 :0", 20, 1);
        wrong("play 3;letter 1 0 1 0:", 22, 1);
        wrong("play 3;letter 1 0 1 0:;", 22, 1);
        wrong("play 3;letter 1 0 1 0:3", 22, 2);
        wrong("play 3;letter 1 0 1 0:0 1 0", 26, 2);
        wrong("play 3;letter 1 0 1 0:0 1:2", 25, 1);
        wrong("play 8;letter 1 0 1 0:0 1 2 3 4 5 6 7 7", 38, 2);
        wrong("play 3;omit 0 0 1", 12, 2);
        wrong("play 3;omit 1 0", 15, 1);
        wrong("play 3;omit 1 0 0", 16, 2);
        wrong("play 3;omit 1 0 1 1", 18, 1);
        wrong("play 3;omit 1 0 1;omit 1 0 01", 27, 4);
        wrong("play 3;late 1 0 1", 17, 1);
        wrong("play 3;late 1 0 1 0", 18, 2);
        wrong("play 3;late 1 0 1 8", 18, 2);
        wrong("play 3;late 1 2 2 8", 16, 2);
        wrong("play 3;late 1 0 1 1;late 1 0 1 9", 29, 4);
        wrong("play 3;late 1 0 1 1;late 1 0 1", 29, 4);
    }

    /** Bytes behind the end are no part of the text, though they were on the tape. */
    private static void tellPrefixes() {
        String text = "play 4;liar 3;letter 1 3 0 1:3 2;omit 1 0 1;late 2 0 1 1";
        for (int n = 0; n < text.length(); n++) {
            MarkedChains whole = new MarkedChains();
            Check.put(whole, text);
            due("3: end", whole.end(n), n);
            due("4: only the first " + n, whole.tell(), Check.tell(new MarkedChains(), text.substring(0, n)));
        }
    }

    private static String many(String head, int count, String part) {
        StringBuilder text = new StringBuilder(head);
        for (int i = 0; i < count; i++) {
            // Ways that are all unlike: the round, then the ends.
            text.append(';').append(part.replace("#", (1 + i % 8) + " " + i / 8 + " 2"));
        }
        return text.toString();
    }

    private static void tellLimits() {
        due("4: 16 letters", Check.of(many("play 3", 16, "letter 1 0 1 0:0")).count(7), 16);
        wrong(many("play 3", 17, "letter 1 0 1 0:0"), 6 + 16 * 17 + 1, 3);
        due("4: 12 omits", Check.of(many("play 3", 12, "omit #")).count(8), 12);
        wrong(many("play 3", 13, "omit #"), 6 + 12 * 11 + 1, 3);
        due("4: 12 lates", Check.of(many("play 3", 12, "late # 1")).count(9), 12);
        wrong(many("play 3", 13, "late # 1"), 6 + 12 * 13 + 1, 3);
        wrong(many("play 3", 12, "omit #") + ";omit", 6 + 12 * 11 + 1, 3);
        StringBuilder longest = new StringBuilder("play 3;cut 1");
        longest.append(" ".repeat(400 - longest.length()));
        due("4: 400 bytes", Check.tell(new MarkedChains(), longest.toString()), 3);
        longest.setCharAt(399, '1');
        wrong(longest.toString(), 399, 1);
    }

    private static void settle() {
        MarkedChains x = Check.of("play 5;rounds 3");
        int[][] good = {{0, 4, 0}, {1, 3, 0}, {2, 8, 3}, {3, 3, 0}, {4, 4, 2}, {4, 1, 4}, {2, 1, 8}, {0, 0, 4}};
        for (int[] g : good) {
            due("5: settle(" + g[0] + ", " + g[1] + ")", x.settle(g[0], g[1]), g[2]);
            due("5: told", x.count(g[0] + 1), g[1]);
            due("5: it is so", x.settle(g[0], g[1]), -2);
        }
        due("5: acts", x.count(10), good.length);
        int[][] bad = {{-1, 0}, {5, 0}, {0, 5}, {0, -1}, {1, 4}, {1, -1}, {2, 0}, {2, 9}, {3, 4}, {3, -1}, {4, 0},
            {4, 5}, {MIN, MIN}, {MAX, MAX}, {0, MAX}};
        for (int[] b : bad) {
            due("5: settle(" + b[0] + ", " + b[1] + ")", x.settle(b[0], b[1]), -1);
        }
        due("5: no acts", x.count(10), good.length);
        due("5: without a play", new MarkedChains().settle(2, 1), -1);
    }

    private static void lies() {
        MarkedChains x = Check.of("play 4;liar 1");
        due("6: lies(3)", x.lies(3), 1);
        due("6: lies(1)", x.lies(1), 0);
        due("6: liars", x.count(6), 8);
        due("6: lies(1)", x.lies(1), 1);
        due("6: liars", x.count(6), 10);
        due("6: lies(4)", x.lies(4), -1);
        due("6: lies(-1)", x.lies(-1), -1);
        due("6: lies(32)", x.lies(32), -1);
        due("6: acts", x.count(10), 3);
    }

    private static void plan() {
        MarkedChains x = Check.of("play 8;liar 3");
        due("7: plan", x.plan(8, 3, 7, 3, 87654321), 0);
        due("7: its marks", x.planned(0, 4), 87654321);
        due("7: no liar's", x.plan(1, 0, 1, 0, 8), 1);
        int[][] bad = {{0, 3, 7, 3, 1}, {9, 3, 7, 3, 1}, {1, 8, 7, 3, 1}, {1, -1, 7, 3, 1}, {1, 3, 8, 3, 1},
            {1, 3, -1, 3, 1}, {1, 3, 3, 3, 1}, {1, 3, 7, 4, 1}, {1, 3, 7, -1, 1}, {1, 3, 7, 3, 0}, {1, 3, 7, 3, -1},
            {1, 3, 7, 3, 9}, {1, 3, 7, 3, 11}, {1, 3, 7, 3, 10}, {1, 3, 7, 3, 102}, {1, 3, 7, 3, 121},
            {1, 3, 7, 3, 187654321}, {1, 3, 7, 3, 100000001}, {1, 3, 7, 3, 100000012}, {1, 3, 7, 3, 1000000012},
            {1, 3, 7, 3, 123456789}, {1, 3, 7, 3, MAX}, {1, 3, 7, 3, MIN}};
        for (int[] b : bad) {
            due("7: plan of " + b[4], x.plan(b[0], b[1], b[2], b[3], b[4]), -1);
        }
        due("7: nothing happened", x.count(7), 2);
        due("7: no acts", x.count(10), 2);
        for (int i = 2; i < 16; i++) {
            due("7: plan", x.plan(1, 3, 7, 3, 1), i);
        }
        due("7: there are 16", x.plan(1, 3, 7, 3, 1), -3);
        due("7: refused ahead of that", x.plan(1, 3, 7, 3, 9), -1);
        due("7: acts", x.count(10), 10);
        due("7: marks of parties that there are", Check.of("play 3").plan(1, 0, 1, 0, 4), -1);
        due("7: marks of parties that there are", Check.of("play 3").plan(1, 0, 1, 0, 321), 0);
    }

    private static void drop() {
        MarkedChains x = Check.of("play 3;liar 0;letter 1 0 1 0:0;letter 2 0 2 1:0 1;letter 3 1 2 2:2;"
                + "omit 1 0 1;omit 2 0 1;late 3 0 1 2;late 4 1 2 5");
        due("8: drop(0, 0)", x.drop(0, 0), 2);
        due("8: a number less", x.planned(0, 0), 2);
        due("8: a number less", x.planned(0, 4), 12);
        due("8: a number less", x.planned(0, 3), 1);
        due("8: a number less", x.planned(1, 4), 3);
        due("8: it is gone", x.planned(2, 0), -1);
        due("8: drop(1, 1)", x.drop(1, 1), 1);
        due("8: the other one stays", x.fault(1, 0, 0), 1);
        due("8: drop(2, 0)", x.drop(2, 0), 1);
        due("8: a number less", x.fault(2, 0, 3), 5);
        due("8: drop(0, 2)", x.drop(0, 2), -1);
        due("8: drop(0, -1)", x.drop(0, -1), -1);
        due("8: drop(1, 1)", x.drop(1, 1), -1);
        due("8: drop(3, 0)", x.drop(3, 0), -1);
        due("8: drop(-1, 0)", x.drop(-1, 0), -1);
        due("8: drop(MIN, MAX)", x.drop(MIN, MAX), -1);
        due("8: acts", x.count(10), 3);
        due("8: the last one", x.drop(2, 0), 0);
    }

    private static void omit() {
        MarkedChains x = Check.of("play 3");
        due("9: omit", x.omit(8, 2, 0), 0);
        due("9: it is one", x.omit(8, 2, 0), -2);
        int[][] bad = {{0, 0, 1}, {9, 0, 1}, {1, 3, 1}, {1, 0, 3}, {1, 1, 1}, {1, -1, 0}, {MAX, MAX, MIN}};
        for (int[] b : bad) {
            due("9: omit", x.omit(b[0], b[1], b[2]), -1);
        }
        for (int i = 1; i < 12; i++) {
            due("9: omit", x.omit(1 + i % 6, i / 6, 2), i);
        }
        due("9: it is one", x.omit(8, 2, 0), -2);
        due("9: there are 12", x.omit(8, 2, 1), -3);
        due("9: refused ahead of that", x.omit(9, 2, 1), -1);
        due("9: acts", x.count(10), 10);
        due("9: how many", x.count(8), 12);
    }

    private static void late() {
        MarkedChains x = Check.of("play 3;omit 8 2 0");
        due("10: late", x.late(8, 2, 0, 7), 0);
        due("10: there is one", x.late(8, 2, 0, 1), -2);
        int[][] bad = {{0, 0, 1, 1}, {9, 0, 1, 1}, {1, 3, 1, 1}, {1, 0, 3, 1}, {1, 1, 1, 1}, {1, -1, 0, 1},
            {1, 0, 1, 0}, {1, 0, 1, 8}, {8, 2, 0, 8}, {1, 0, 1, MIN}};
        for (int[] b : bad) {
            due("10: late", x.late(b[0], b[1], b[2], b[3]), -1);
        }
        for (int i = 1; i < 12; i++) {
            due("10: late", x.late(1 + i % 6, i / 6, 2, 1), i);
        }
        due("10: there is one", x.late(8, 2, 0, 1), -2);
        due("10: there are 12", x.late(8, 2, 1, 1), -3);
        due("10: refused ahead of that", x.late(8, 2, 1, 0), -1);
        due("10: acts", x.count(10), 10);
    }

    private static void attack() {
        MarkedChains x = Check.of("play 7;sender 3;rounds 3;default 3;liar 3 6 1 0;letter 1 3 0 1:3;letter 1 3 0 1:3");
        due("11: attack", x.attack(), 3);
        due("11: one alone", x.count(7), 1);
        due("11: in the last round", x.planned(0, 0), 3);
        due("11: from the last of these", x.planned(0, 1), 1);
        due("11: to the least honest", x.planned(0, 2), 2);
        due("11: default 3 and 1, of 4 the rest", x.planned(0, 3), 0);
        due("11: marks", x.planned(0, 4), 412);
        due("11: they part", x.alike(), 0);
        due("11: it is an act", x.undo(), 0);
        due("11: undone", x.count(7), 2);
        due("11: rounds 5", x.settle(2, 5), 3);
        due("11: fewer liars than rounds", x.attack(), -2);
        due("11: rounds 4", x.settle(2, 4), 5);
        due("11: as many", x.attack(), 4);
        due("11: marks", x.planned(0, 4), 4127);
        due("11: the sender is honest", x.settle(0, 2), 3);
        due("11: the sender is no liar", x.attack(), -2);
        x = Check.of("play 3;rounds 1;liar 0");
        due("11: one round", x.attack(), 1);
        due("11: from the sender", x.planned(0, 1), 0);
        due("11: 2 lies", x.lies(2), 1);
        due("11: one honest party is too few", x.attack(), -2);
        due("11: nothing happened", x.count(10), 2);
        due("11: without a play", new MarkedChains().attack(), -1);
    }

    private static void trade() {
        MarkedChains x = Check.of("play 4;sender 1;liar 1 2;letter 1 1 3 2:1 0 3;omit 1 0 3;late 2 3 1 4");
        due("12: trade(1, 3)", x.trade(1, 3), 4);
        counted(x, 4, 3, 0, 1, 0, 2, 0b1100, 1, 1, 1, 1);
        due("12: from", x.planned(0, 1), 3);
        due("12: to", x.planned(0, 2), 1);
        due("12: marks", x.planned(0, 4), 412);
        due("12: value stays", x.planned(0, 3), 2);
        due("12: omit", x.fault(1, 0, 1), 0);
        due("12: omit", x.fault(1, 0, 2), 1);
        due("12: late", x.fault(2, 0, 0), 2);
        due("12: late", x.fault(2, 0, 1), 1);
        due("12: late", x.fault(2, 0, 2), 3);
        due("12: late", x.fault(2, 0, 3), 4);
        due("12: both liars", x.trade(3, 2), 4);
        due("12: both liars", x.count(6), 0b1100);
        due("12: the sender", x.count(1), 2);
        due("12: one and the same", x.trade(1, 1), -1);
        due("12: none", x.trade(0, 4), -1);
        due("12: none", x.trade(-1, 0), -1);
        due("12: none", x.trade(MAX, MIN), -1);
        due("12: acts", x.count(10), 2);
    }

    private static void undo() {
        MarkedChains x = Check.of("play 4;liar 3;letter 1 3 0 1:3;omit 1 0 1;late 1 0 1 1");
        due("13: none yet", x.undo(), -1);
        x.settle(1, 3);
        x.lies(2);
        x.plan(2, 3, 1, 2, 4);
        x.drop(0, 0);
        x.omit(2, 1, 0);
        x.late(2, 1, 0, 3);
        x.settle(0, 2);
        due("13: attack", x.attack(), 1);
        x.trade(0, 3);
        due("13: acts", x.count(10), 9);
        due("13: trade", x.undo(), 8);
        due("13: liars", x.count(6), 12);
        due("13: attack", x.undo(), 7);
        due("13: the plan that was", x.planned(0, 4), 4);
        due("13: sender", x.undo(), 6);
        due("13: sender", x.count(1), 0);
        due("13: late", x.undo(), 5);
        due("13: lates", x.count(9), 1);
        due("13: omit", x.undo(), 4);
        due("13: omits", x.count(8), 1);
        due("13: drop", x.undo(), 3);
        due("13: plans", x.count(7), 2);
        due("13: the first again", x.planned(0, 0), 1);
        due("13: plan", x.undo(), 2);
        due("13: plans", x.count(7), 1);
        due("13: lies", x.undo(), 1);
        due("13: liars", x.count(6), 8);
        due("13: settle", x.undo(), 0);
        due("13: value", x.count(2), 0);
        due("13: no more", x.undo(), -1);
        undoTen();
    }

    private static void undoTen() {
        MarkedChains x = Check.of("play 4");
        for (int i = 1; i <= 13; i++) {
            due("13: settle", x.settle(2, 1 + i % 8), 1 + (i - 1) % 8);
            due("13: at most 10", x.count(10), Math.min(i, 10));
        }
        for (int i = 12; i >= 3; i--) {
            due("13: undo", x.undo(), i - 3);
            due("13: rounds", x.count(3), 1 + i % 8);
            due("13: behind an undo sets are of that play", x.set(0, i % 8 + 1), 1);
        }
        due("13: the first three stay", x.undo(), -1);
        due("13: the first three stay", x.count(3), 4);
    }

    private static void shelves() {
        MarkedChains x = Check.of("play 4;liar 3;letter 1 3 0 1:3;letter 1 3 0 1:3;omit 1 0 1");
        due("15: nothing is", x.back(0), -2);
        due("14: keep(0)", x.keep(0), 2);
        due("14: on shelf 0", x.count(12), 1);
        due("14: keep is no act", x.count(10), 0);
        x.drop(0, 1);
        x.trade(0, 3);
        due("14: keep(1)", x.keep(1), 1);
        due("14: on both", x.count(12), 3);
        due("14: keep stays out of acts", x.count(10), 2);
        due("15: back(0)", x.back(0), 2);
        due("15: liars", x.count(6), 8);
        due("15: omit", x.fault(1, 0, 2), 1);
        due("15: nothing can be undone", x.count(10), 0);
        x.lies(0);
        due("15: the shelf is not the play", x.back(0), 2);
        due("15: liars", x.count(6), 8);
        due("15: back(1)", x.back(1), 1);
        due("15: liars", x.count(6), 1);
        due("14: keep(0) anew", x.keep(0), 1);
        Check.tell(x, "play 3");
        due("15: shelves stay", x.back(0), 1);
        due("15: parties", x.count(0), 4);
        int[] none = {-1, 2, MIN, MAX};
        for (int shelf : none) {
            due("14: keep(" + shelf + ")", x.keep(shelf), -1);
            due("15: back(" + shelf + ")", x.back(shelf), -1);
        }
        x.feed(0, 0, 0, 0, 0);
        due("15: back", x.back(0), 1);
        due("15: the tape is not of the play", x.count(11), 20);
        x = new MarkedChains();
        due("14: no play is kept too", x.keep(1), 0);
        Check.tell(x, "play 3");
        due("15: back(0)", x.back(0), -2);
        due("15: back(1)", x.back(1), 0);
        due("15: no play", x.count(0), 0);
    }

    private static void sets() {
        MarkedChains x = Check.of(HONEST);
        due("16: ahead of all rounds", x.set(2, 0), 8);
        due("16: of others nothing", x.set(0, 0), 0);
        due("16: behind 1", x.set(0, 1), 8);
        due("16: behind 2", x.set(3, 2), 8);
        due("16: behind 3", x.set(3, 3), -1);
        due("16: behind -1", x.set(3, -1), -1);
        due("16: of 4", x.set(4, 0), -1);
        due("16: of -1", x.set(-1, 0), -1);
        for (int p = 0; p < 4; p++) {
            due("17: decision", x.decision(p), 3);
        }
        due("17: of 4", x.decision(4), -1);
        due("17: of -1", x.decision(-1), -1);
        x = Check.of(PARTED);
        due("16: of a liar", x.set(1, 0), -1);
        due("16: set(0, 1)", x.set(0, 1), 4);
        due("16: set(2, 1)", x.set(2, 1), 0);
        due("16: set(2, 2)", x.set(2, 2), 5);
        due("16: set(3, 2)", x.set(3, 2), 4);
        due("17: of one", x.decision(0), 2);
        due("17: of two", x.decision(2), 3);
        due("17: of one", x.decision(3), 2);
        due("17: of a liar", x.decision(4), -1);
        due("17: of none", Check.of("play 3;liar 0;default 2").decision(1), 2);
    }

    private static void extracted() {
        MarkedChains x = Check.of(PARTED);
        int[][] wants = {{0, 2, 1, 1, 1, 1}, {2, 2, 2, 0, 2, 1}, {2, 0, 2, 4, 2, 1}, {3, 2, 2, 0, 2, 1}};
        for (int[] w : wants) {
            for (int what = 0; what < 4; what++) {
                due("18: extracted(" + w[0] + ", " + w[1] + ", " + what + ")", x.extracted(w[0], w[1], what), w[2 + what]);
            }
        }
        due("18: it did not", x.extracted(0, 0, 0), -2);
        due("18: it did not", x.extracted(3, 3, 3), -2);
        int[][] bad = {{0, 0, 4}, {0, 0, -1}, {0, 4, 0}, {0, -1, 0}, {5, 0, 0}, {-1, 0, 0}, {1, 0, 0}, {MIN, MAX, MIN}};
        for (int[] b : bad) {
            due("18: extracted", x.extracted(b[0], b[1], b[2]), -1);
        }
        x.settle(4, 1);
        due("18: of one round the lower number", x.extracted(2, 0, 3), 1);
        due("18: the cut", x.extracted(2, 2, 3), 0);
        x = Check.of(HONEST);
        due("18: the sender", x.extracted(2, 3, 0), 0);
        due("18: from whom", x.extracted(2, 3, 1), -1);
        due("18: marks", x.extracted(2, 3, 2), 0);
        due("18: never relayed again", x.extracted(2, 3, 3), 0);
        cutByRound();
    }

    /** 1 extracts 3 in round 1 and 0, 2 in round 2: with a cut of 2 it relays 3 and 0. */
    private static void cutByRound() {
        MarkedChains x = Check.of("play 4;rounds 3;liar 0 3;letter 1 0 1 3:0;letter 2 3 1 2:0 3;letter 2 3 1 0:0 3");
        due("18: first", x.extracted(1, 3, 3), 1);
        due("18: second", x.extracted(1, 0, 3), 1);
        due("18: third", x.extracted(1, 2, 3), 0);
        due("18: 2 hears of it", x.set(2, 3), 9);
        due("18: round", x.extracted(2, 0, 0), 3);
        due("23: three of each relayed one", x.sent(2), 5);
        due("23: three of each relayed one", x.sent(3), 6);
        x.settle(4, 3);
        due("18: third", x.extracted(1, 2, 3), 1);
        due("18: 2 hears of it", x.set(2, 3), 13);
        // In round 3: of 1, by values, to 0, 2, 3; then of 2, which extracted 3 in round 2.
        due("19: the order", x.letter(6, 3), 0);
        due("19: the order", x.letter(9, 3), 2);
        due("19: the order", x.letter(12, 1), 2);
    }

    private static void letters() {
        MarkedChains x = Check.of(PARTED);
        int[][] wants = {{1, 1, 0, 2, 1, 1, 2}, {2, 0, 1, 2, 2, 2, 0}, {2, 0, 2, 2, 2, 2, 2}, {2, 0, 3, 2, 2, 2, 2},
            {2, 0, 4, 2, 2, 2, 0}, {2, 4, 2, 0, 2, 2, 2}};
        due("19: how many", x.letter(-1, 0), 6);
        for (int k = 0; k < 6; k++) {
            for (int what = 0; what < 7; what++) {
                due("19: letter(" + k + ", " + what + ")", x.letter(k, what), wants[k][what]);
            }
            due("19: letter(" + k + ", 7)", x.letter(k, 7), -1);
            due("19: letter(" + k + ", -1)", x.letter(k, -1), -1);
        }
        due("19: letter(6, 0)", x.letter(6, 0), -1);
        due("19: letter(-1, 1)", x.letter(-1, 1), -1);
        due("19: letter(-2, 0)", x.letter(-2, 0), -1);
        int[][] marks = {{1}, {1, 0}, {1, 0}, {1, 0}, {1, 0}, {1, 4}};
        for (int k = 0; k < 6; k++) {
            for (int i = 0; i < 3; i++) {
                due("20: mark", x.mark(k, i), i < marks[k].length ? marks[k][i] : -1);
            }
        }
        due("20: mark(0, -1)", x.mark(0, -1), -1);
        due("20: mark(6, 0)", x.mark(6, 0), -1);
        due("20: mark(-1, 0)", x.mark(-1, 0), -1);
        x = Check.of(FAULTY);
        due("19: late", x.letter(0, 5), 2);
        due("19: it does not count", x.letter(0, 6), 0);
        due("19: omitted", x.letter(1, 5), -1);
        due("19: omitted", x.letter(1, 6), 0);
        x.settle(2, 1);
        due("19: late behind the last round", x.letter(0, 5), -1);
        x = Check.of(HONEST);
        due("19: nine relayed", x.letter(-1, 0), 12);
        due("19: it counts", x.letter(3, 6), 1);
        due("19: 0 to 1", x.letter(3, 2), 1);
        due("19: 0 to 2", x.letter(4, 2), 2);
        lateWithMarks();
    }

    /** Letters with more marks than rounds have gone count later too; the omit is ahead of the late. */
    private static void lateWithMarks() {
        MarkedChains x = Check.of("play 4;rounds 3;liar 0 3;letter 1 3 1 2:0 3;late 1 3 1 1;letter 1 0 2 1:3 0");
        due("19: comes late", x.letter(0, 5), 2);
        due("19: counts", x.letter(0, 6), 2);
        due("19: the first mark is not the sender's", x.letter(1, 6), 0);
        due("19: 1 relays it in round 3", x.letter(2, 0), 3);
        due("19: with three marks", x.letter(2, 4), 3);
        due("20: the last is its own", x.mark(3, 2), 1);
        due("16: 2 has it", x.set(2, 3), 4);
        due("10: later", x.omit(1, 3, 1), 0);
        due("19: not at all", x.letter(0, 5), -1);
        x.drop(1, 0);
        x.drop(2, 0);
        due("10: by 2", x.late(1, 3, 1, 2), 0);
        due("19: comes in 3", x.letter(0, 5), 3);
        due("19: with two marks", x.letter(0, 6), 0);
        due("40: too few marks", x.count(13), 1);
    }

    private static void packs() {
        MarkedChains x = Check.of(PARTED);
        due("21: 2 + 4 * 2", x.packed(0), 10);
        due("21: 2 + 4 * (1 * 9 + 2)", x.packed(1), 46);
        due("21: 4 * (5 * 9 + 2)", x.packed(5), 188);
        due("21: packed(6)", x.packed(6), -1);
        due("21: packed(-1)", x.packed(-1), -1);
        x = Check.of("play 8;liar 0 1 2 3 4 5 6 7;letter 1 0 1 3:7 6 5 4 3 2 1 0");
        due("21: eight marks", x.packed(0), 3 + 4L * Long.parseLong("12345678", 9));
        due("22: its first", x.open(x.packed(0), 10), 7);
        due("22: its last", x.open(x.packed(0), 17), 0);
    }

    private static void opens() {
        MarkedChains x = new MarkedChains();
        long eight = 2 + 4L * Long.parseLong("87654321", 9);
        due("22: value", x.open(eight, 0), 2);
        due("22: marks", x.open(eight, 1), 8);
        for (int i = 0; i < 8; i++) {
            due("22: mark", x.open(eight, 10 + i), i);
        }
        due("22: 9", x.open(eight, 9), -1);
        due("22: 18", x.open(eight, 18), -1);
        due("22: 2", x.open(eight, 2), -1);
        due("22: -1", x.open(eight, -1), -1);
        due("22: MIN", x.open(eight, MIN), -1);
        due("22: one mark", x.open(188, 12), -2);
        due("22: one mark", x.open(7, 17), -2);
        due("22: the least", x.open(4, 10), 0);
        long[] none = {0, 1, 3, -1, -4, Long.MIN_VALUE, Long.MAX_VALUE, 4 * 9, 4 * 10, 4 * (81 + 1),
            4L * Long.parseLong("187654321", 9), 4L * Long.parseLong("11", 9), 4L * Long.parseLong("8765432101", 9),
            4L * Long.parseLong("10000000", 9), 4L * Long.parseLong("12345671", 9)};
        for (long packed : none) {
            due("22: open(" + packed + ", 0)", x.open(packed, 0), -1);
            due("22: open(" + packed + ", 10)", x.open(packed, 10), -1);
            due("22: open(" + packed + ", 17)", x.open(packed, 17), -1);
        }
    }

    private static void sent() {
        MarkedChains x = Check.of(PARTED);
        int[] wants = {-1, 1, 5, 0, 0, 0, 0, 0, 0, -1};
        for (int r = 0; r <= 9; r++) {
            due("23: sent(" + r + ")", x.sent(r), wants[r]);
        }
        due("23: in all", x.sent(-1), 6);
        due("23: sent(-2)", x.sent(-2), -1);
    }

    private static void forged() {
        MarkedChains x = Check.of("play 3;rounds 2;liar 2;letter 3 2 0 1:2;letter 1 1 0 1:1;letter 1 2 0 1:2 0;"
                + "letter 1 2 1 0:0 2;letter 2 2 1 0:0 2;letter 2 2 1 0:0 1;letter 1 2 0 3:2");
        due("24: forged ones", x.forged(0), 0b101100);
        due("24: others that were not sent", x.forged(1), 3);
        due("24: forged(2)", x.forged(2), -1);
        due("24: forged(-1)", x.forged(-1), -1);
        due("23: of round 1 the last", x.letter(2, 1), 2);
        due("23: two of round 2 are relayed, one planned", x.sent(2), 3);
        x.settle(2, 1);
        due("24: beyond the rounds", x.forged(1), 0b110011);
        due("24: forged ones", x.forged(0), 0b1100);
        x.settle(2, 3);
        due("24: not beyond", x.forged(1), 2);
        x.lies(2);
        due("24: from no liar", x.forged(1), 127);
        due("24: none is forged", x.forged(0), 0);
    }

    private static void known() {
        MarkedChains x = Check.of(PARTED);
        due("25: a liar's", x.known(1, 0), 0);
        due("25: a liar's", x.known(4, 3), 0);
        due("25: behind the last", x.known(0, 2), 3);
        due("25: never", x.known(0, 0), -2);
        due("25: never", x.known(2, 0), -2);
        due("25: known(5, 0)", x.known(5, 0), -1);
        due("25: known(-1, 0)", x.known(-1, 0), -1);
        due("25: known(0, 4)", x.known(0, 4), -1);
        due("25: known(0, -1)", x.known(0, -1), -1);
        x = Check.of("play 3;value 1;rounds 3;liar 2;late 1 0 2 1;omit 2 1 2");
        due("25: late by one", x.known(0, 1), 3);
        due("25: omitted", x.known(1, 1), -2);
        x.lies(2);
        due("25: no liars", x.known(0, 1), -2);
    }

    private static void together() {
        MarkedChains x = Check.of(PARTED);
        due("26: alike", x.alike(), 0);
        due("27: the sender lies", x.valid(), 1);
        due("28: sound", x.sound(), 0b1101);
        x.omit(8, 2, 1);
        due("28: an omit of any round", x.sound(), 0b1001);
        due("26: 0 and 3 alone", x.alike(), 1);
        x.late(8, 4, 3, 1);
        due("28: a late", x.sound(), 1);
        x.omit(1, 0, 4);
        due("28: none", x.sound(), 0);
        due("26: none", x.alike(), 1);
        x = Check.of(FAULTY);
        due("28: faulty", x.sound(), 0);
        due("27: the sender is not sound", x.valid(), 1);
        x = Check.of(HONEST);
        due("26: honest", x.alike(), 1);
        due("27: honest", x.valid(), 1);
        due("28: honest", x.sound(), 15);
        x.omit(1, 2, 0);
        due("27: the sender is not sound", x.valid(), 1);
        due("28: two are", x.sound(), 0b1010);
    }

    private static void parted() {
        MarkedChains x = Check.of(PARTED);
        due("29: the second letter alone", x.parted(), 2);
        x.settle(4, 1);
        due("29: the play is as it was", x.count(7), 2);
        x.drop(0, 1);
        due("29: by none", x.parted(), -2);
        x.settle(2, 1);
        due("29: in one round the first", x.parted(), 1);
        due("29: honest", Check.of(HONEST).parted(), -2);
        // Six that do nothing; the seventh stays, so no letter of the six is needed.
        x = Check.of("play 4;liar 0;letter 2 0 1 1:0;letter 2 0 1 1:0;letter 2 0 1 1:0;letter 2 0 1 1:0;"
                + "letter 2 0 1 1:0;letter 2 0 1 1:0;letter 1 0 1 1:0");
        due("29: the seventh stays", x.parted(), 0);
        x.drop(0, 0);
        due("29: it is the sixth now", x.parted(), 32);
        // The one that stays gives all of them 1; a second value to one party parts them.
        x = Check.of("play 4;rounds 1;liar 0;letter 1 0 1 1:0;letter 1 0 2 1:0;letter 1 0 3 1:0;letter 1 0 2 0:0");
        due("29: of as many the least", x.parted(), 1);
    }

    private static void slack() {
        MarkedChains x = Check.of(PARTED);
        due("30: slack(1, 1, 0)", x.slack(1, 1, 0), 0);
        due("30: slack(2, 0, 3)", x.slack(2, 0, 3), 0);
        due("30: to a liar", x.slack(2, 0, 1), 7);
        due("30: nothing is sent", x.slack(8, 0, 1), 7);
        int[][] bad = {{0, 0, 1}, {9, 0, 1}, {1, 0, 0}, {1, 5, 0}, {1, 0, 5}, {1, -1, 0}};
        for (int[] b : bad) {
            due("30: slack", x.slack(b[0], b[1], b[2]), -1);
        }
        due("30: nothing changed", x.count(9), 0);
        x = Check.of(FAULTY);
        due("30: not even by 0", x.slack(1, 0, 1), -2);
        due("30: in place of the omit", x.slack(1, 0, 2), -2);
        due("30: lates stay", x.count(9), 1);
        // Three marks in round 1: by 2 it counts still, by 3 no more.
        x = Check.of("play 6;rounds 5;liar 0 3 4;default 1;letter 1 3 1 2:0 3 4");
        due("30: by two", x.slack(1, 3, 1), 2);
        MarkedChains y = Check.of("play 8;rounds 8;default 1;liar 0 1 2 3 4 5 6;letter 1 0 7 2:0 1 2 3 4 5 6");
        due("30: seven marks, by six", y.slack(1, 0, 7), 6);
        x.late(1, 3, 1, 5);
        due("30: it counts for nothing now", x.slack(1, 3, 1), -2);
        thirteen();
    }

    /** With twelve lates and omits told, one more is tried all the same. */
    private static void thirteen() {
        MarkedChains x = Check.of("play 3;value 1;rounds 1");
        for (int i = 0; i < 12; i++) {
            x.late(2 + i % 6, i / 6, 2, 1);
            x.omit(2 + i % 6, i / 6, 2);
        }
        due("30: twelve lates", x.count(9), 12);
        due("30: the thirteenth", x.slack(1, 0, 1), 0);
        due("31: the thirteenth", x.crucial(1, -1), 2);
    }

    private static void crucial() {
        MarkedChains x = Check.of(PARTED);
        due("31: round 1", x.crucial(1, -1), 1);
        due("31: round 1", x.crucial(1, 0), 8);
        due("31: round 1", x.crucial(1, 1), -2);
        due("31: round 2", x.crucial(2, -1), 3);
        due("31: 0 to 2", x.crucial(2, 0), 2);
        due("31: 0 to 3", x.crucial(2, 1), 3);
        due("31: 4 to 2", x.crucial(2, 2), 34);
        due("31: not so many", x.crucial(2, 3), -2);
        due("31: not so many", x.crucial(2, MAX), -2);
        due("31: round 3", x.crucial(3, -1), -1);
        due("31: round 0", x.crucial(0, -1), -1);
        due("31: k", x.crucial(2, -2), -1);
        x.omit(2, 0, 3);
        due("31: there is one already", x.crucial(2, -1), 2);
        due("31: 4 to 2", x.crucial(2, 1), 34);
        x = Check.of("play 3;value 2;default 2");
        due("31: decisions stay", x.crucial(1, -1), 0);
        x.settle(3, 1);
        due("31: 0 to 1, 0 to 2", x.crucial(1, -1), 2);
        due("31: 0 to 2", x.crucial(1, 1), 2);
    }

    private static void least() {
        MarkedChains x = Check.of(PARTED);
        due("32: three", x.least(), 3);
        due("32: rounds stay", x.count(3), 2);
        due("32: honest", Check.of(HONEST).least(), 1);
        // With two rounds 6 relays it to 7; with one it cannot. The letter of round 8 does not count.
        x = Check.of("play 8;liar 0 1 2 3 4 5;letter 1 0 6 1:0 1 2 3 4 5;letter 8 0 6 2:0");
        due("32: two honest ones", x.least(), 2);
        // Relayed in each round above 1, so only with one round they part; a cut does not matter.
        x = Check.of("play 4;liar 0;letter 1 0 1 1:0");
        due("32: two", x.least(), 2);
        // The relayed letters of all rounds are omitted: 1 and 2 are not sound, 3 is alone.
        x = Check.of("play 4;liar 0;letter 1 0 1 1:0;omit 2 1 2");
        due("32: one sound party", x.least(), 1);
        // With 8 rounds liars need 8 marks: parted by a cut that keeps 1 from relaying its second value.
        x = Check.of("play 5;cut 1;liar 0 4;letter 1 0 1 1:0;letter 1 0 2 1:0;letter 1 0 3 1:0;letter 2 4 1 2:0 4");
        due("32: not even with 8", x.least(), -2);
        x.settle(4, 2);
        due("32: with a cut of two", x.least(), 3);
    }

    private static void holders() {
        MarkedChains x = Check.of(PARTED);
        due("33: behind 0", x.holders(2, 0), 0);
        due("33: behind 1", x.holders(2, 1), 1);
        due("33: behind 2", x.holders(2, 2), 0b1101);
        due("33: value 0", x.holders(0, 2), 4);
        due("33: value 3", x.holders(3, 2), 0);
        due("33: behind 3", x.holders(2, 3), -1);
        due("33: behind -1", x.holders(2, -1), -1);
        due("33: value 4", x.holders(4, 0), -1);
        due("33: value -1", x.holders(-1, 0), -1);
        due("33: the sender", Check.of(HONEST).holders(3, 0), 4);
    }

    private static void path() {
        MarkedChains x = Check.of(PARTED);
        due("34: how many", x.path(2, 0, -1), 2);
        due("34: first", x.path(2, 0, 0), 1);
        due("34: second", x.path(2, 0, 1), 4);
        due("34: not so many", x.path(2, 0, 2), -2);
        due("34: not so many", x.path(2, 0, MAX), -2);
        due("34: through 0", x.path(3, 2, 1), 0);
        due("34: it did not", x.path(3, 0, -1), -2);
        due("34: it did not", x.path(3, 0, 0), -2);
        due("34: i", x.path(2, 0, -2), -1);
        due("34: a liar", x.path(1, 0, 0), -1);
        due("34: party 5", x.path(5, 0, 0), -1);
        due("34: value 4", x.path(2, 4, 0), -1);
        x = Check.of(HONEST);
        due("34: as sender", x.path(2, 3, -1), 0);
        due("34: as sender", x.path(2, 3, 0), -2);
    }

    private static void caught() {
        MarkedChains x = Check.of(PARTED);
        due("35: 2 in round 2", x.caught(2), 2);
        due("35: 0 never", x.caught(0), -2);
        due("35: a liar", x.caught(1), -1);
        due("35: party 5", x.caught(5), -1);
        due("35: party -1", x.caught(-1), -1);
        x.settle(2, 3);
        due("35: 2 relays it", x.caught(0), 3);
        due("35: an honest sender", Check.of(HONEST).caught(2), -2);
        // The mark anywhere in the letter, and letters that come too late to count.
        x = Check.of("play 4;rounds 4;liar 0 3;letter 1 0 1 1:0;letter 1 3 1 2:3 0;late 1 3 1 3;letter 1 3 2 1:0 3;"
                + "letter 1 3 2 2:3");
        due("35: late", x.caught(1), 4);
        due("35: without its mark", x.caught(2), -2);
    }

    private static void bits() {
        MarkedChains x = Check.of(PARTED);
        due("36: one of one mark", x.bits(1), 8);
        due("36: five of two", x.bits(2), 55);
        due("36: none", x.bits(3), 0);
        due("36: none", x.bits(8), 0);
        due("36: the greatest", x.bits(-1), 11);
        due("36: bits(0)", x.bits(0), -1);
        due("36: bits(9)", x.bits(9), -1);
        due("36: bits(-2)", x.bits(-2), -1);
        due("36: no letters", Check.of("play 3;liar 0").bits(-1), 0);
    }

    private static void load() {
        MarkedChains x = Check.of(PARTED);
        due("37: 0 to 2", x.load(0, 2), 1);
        due("37: 2 to 0", x.load(2, 0), 0);
        due("37: the most", x.load(-1, MIN), 1);
        x.plan(1, 4, 2, 0, 5);
        due("37: 4 to 2", x.load(4, 2), 2);
        due("37: the most", x.load(-1, -1), 2);
        due("37: one alone", x.load(1, 1), -1);
        due("37: none", x.load(5, 1), -1);
        due("37: none", x.load(1, 5), -1);
        due("37: none", x.load(-2, 1), -1);
        due("37: none", x.load(1, -1), -1);
        due("37: no letters", Check.of("play 3;liar 0").load(-1, 0), 0);
    }

    private static void calm() {
        MarkedChains x = Check.of(PARTED);
        due("38: changes up to 2", x.calm(0), 2);
        due("38: no one set", x.calm(1), -2);
        due("38: calm(2)", x.calm(2), -1);
        due("38: calm(-1)", x.calm(-1), -1);
        x.settle(2, 4);
        due("38: changes up to 3", x.calm(0), 3);
        due("38: one set behind 3", x.calm(1), 3);
        x = Check.of(HONEST);
        due("38: changes up to 1", x.calm(0), 1);
        due("38: one set behind 1", x.calm(1), 1);
        x = Check.of("play 3;liar 0;rounds 3");
        due("38: nothing changes", x.calm(0), 0);
        due("38: one set, of nothing", x.calm(1), 0);
        // 1 and 2 part and join again: they have one set behind 0, but not behind 1.
        x = Check.of("play 4;liar 0;rounds 3;letter 1 0 1 1:0");
        due("38: there and behind all later", x.calm(1), 2);
    }

    private static void heal() {
        due("39: the omit", Check.of(FAULTY).heal(), 1);
        MarkedChains x = Check.of("play 3;value 1;rounds 2;omit 1 0 2;omit 2 2 1;late 1 0 1 1");
        due("39: the late, behind the omits", x.heal(), 4);
        due("39: all stay", x.count(8), 2);
        due("39: honest", Check.of(HONEST).heal(), 0);
        due("39: by none", Check.of(PARTED).heal(), -2);
        x = Check.of("play 3;value 1;omit 1 0 1;omit 1 0 2");
        due("39: both", x.heal(), 3);
        x.settle(3, 1);
        due("39: the default is alike", x.heal(), 0);
        // The two that matter are the sixth and the seventh: the seventh cannot go.
        x = Check.of("play 3;value 1;omit 8 0 1;omit 7 0 1;omit 6 0 1;omit 5 0 1;omit 4 0 1;omit 1 0 1;late 1 0 2 7");
        due("39: the seventh", x.heal(), -2);
        x.drop(2, 0);
        due("39: the sixth", x.heal(), 32);
        x.drop(1, 0);
        x.late(1, 0, 2, 7);
        due("39: the fifth and the sixth", x.heal(), 48);
        x = Check.of("play 7;value 1;omit 1 0 1;omit 1 0 2;omit 1 0 3;omit 1 0 4;omit 1 0 5;omit 1 0 6");
        due("39: all six", x.heal(), 63);
        // All honest parties, not the sound ones alone.
        x = Check.of("play 4;value 1;rounds 1;omit 1 0 3");
        due("39: 3 is not sound", x.alike(), 1);
        due("39: but honest", x.heal(), 1);
    }

    private static void counts() {
        MarkedChains x = Check.of("play 4;sender 1;value 2;rounds 3;default 1;cut 3;liar 1 3;letter 1 1 0 2:1;"
                + "omit 3 0 2;omit 3 2 0;late 1 1 0 1");
        x.feed(0, 0, 0, 0, 0);
        x.keep(1);
        x.settle(3, 0);
        counted(x, 4, 1, 2, 3, 0, 3, 10, 1, 2, 1, 1, 20, 2, 1, -1);
        due("40: count(-1)", x.count(-1), -1);
        due("40: count(MIN)", x.count(MIN), -1);
        due("40: count(MAX)", x.count(MAX), -1);
        // To a liar: not counted; whatever the first mark: counted.
        x = Check.of("play 4;rounds 2;liar 0 3;letter 2 0 3 1:0;letter 2 0 1 1:3;letter 2 0 2 1:0 3");
        due("40: one mark in round 2", x.count(13), 1);
        x.omit(2, 0, 1);
        due("40: it did not come", x.count(13), 0);
    }

    private static void planned() {
        MarkedChains x = Check.of("play 8;letter 8 7 6 3:7 0 3");
        int[] wants = {8, 7, 6, 3, 814, -1};
        for (int what = 0; what < wants.length; what++) {
            due("41: planned(0, " + what + ")", x.planned(0, what), wants[what]);
        }
        due("41: planned(0, -1)", x.planned(0, -1), -1);
        due("41: planned(1, 0)", x.planned(1, 0), -1);
        due("41: planned(-1, 0)", x.planned(-1, 0), -1);
        due("41: planned(MAX, 0)", x.planned(MAX, 0), -1);
    }

    private static void fault() {
        MarkedChains x = Check.of("play 8;omit 8 7 6;late 7 6 5 4");
        int[][] wants = {{8, 7, 6, 0, -1}, {7, 6, 5, 4, -1}};
        for (int kind = 1; kind <= 2; kind++) {
            for (int what = 0; what < 5; what++) {
                due("42: fault(" + kind + ", 0, " + what + ")", x.fault(kind, 0, what), wants[kind - 1][what]);
            }
            due("42: what -1", x.fault(kind, 0, -1), -1);
            due("42: k 1", x.fault(kind, 1, 0), -1);
            due("42: k -1", x.fault(kind, -1, 0), -1);
        }
        x.plan(1, 0, 1, 0, 1);
        due("42: kind 0", x.fault(0, 0, 0), -1);
        due("42: kind 3", x.fault(3, 0, 0), -1);
        due("42: kind -1", x.fault(-1, 0, 0), -1);
    }

    private static void withoutPlay() {
        MarkedChains x = new MarkedChains();
        int[] none = {x.settle(1, 1), x.lies(0), x.plan(1, 0, 1, 0, 1), x.drop(1, 0), x.omit(1, 0, 1),
            x.late(1, 0, 1, 1), x.attack(), x.trade(0, 1), x.undo(), x.set(0, 0), x.decision(0),
            x.extracted(0, 0, 0), x.letter(-1, 0), x.letter(0, 0), x.mark(0, 0), (int) x.packed(0), x.sent(-1),
            x.sent(1), x.known(0, 0), x.parted(), x.slack(1, 0, 1), x.crucial(1, -1), x.least(), x.holders(0, 0),
            x.path(0, 0, -1), x.caught(0), x.bits(-1), x.bits(1), x.load(-1, 0), x.load(0, 1), x.calm(0), x.calm(1),
            x.heal(), x.planned(0, 0), x.fault(1, 0, 0), x.fault(2, 0, 0)};
        for (int i = 0; i < none.length; i++) {
            due("without a play, call " + i, none[i], -1);
        }
        due("alike()", x.alike(), 1);
        due("valid()", x.valid(), 1);
        due("sound()", x.sound(), 0);
        due("forged(0)", x.forged(0), 0);
        due("forged(1)", x.forged(1), 0);
        due("forged(2)", x.forged(2), -1);
    }
}
