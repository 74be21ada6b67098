/** Boundary cases of ACTS, of what can be UNDONE and of SHELVES: promises 5 to 15. */
final class EdgesOfActs {
    private static final String RICH = "play 5;sender 1;rounds 2;default 3;liar 1 4;letter 1 1 0 2:1;"
            + "letter 2 4 2 0:1 4;omit 1 2 3;late 2 0 3 2";

    private final Edges e;

    private EdgesOfActs(Edges e) {
        this.e = e;
    }

    static void run(Edges e) {
        EdgesOfActs t = new EdgesOfActs(e);
        t.settle();
        t.settleRefused();
        t.lies();
        t.plan();
        t.planMarks();
        t.planFull();
        t.drop();
        t.omit();
        t.omitRefused();
        t.late();
        t.lateRefused();
        t.attack();
        t.attackRefused();
        t.trade();
        t.undo();
        t.undoLastTen();
        t.noActs();
        t.keep();
        t.back();
        t.refusalsInOrder();
        t.calls512();
    }

    /**
     * DEFAULT is 2 now, LIARS 1, 2, 4, OMITS 1 2 3 and 2 3 0, LATES 2 0 3 2 and 8 3 4 7, and four ACTS
     * can be UNDONE; both SHELVES have something else.
     */
    static MarkedChains emptyTape() {
        MarkedChains x = Check.of(RICH);
        x.keep(0);
        x.settle(3, 2);
        x.omit(2, 3, 0);
        x.keep(1);
        x.late(8, 3, 4, 7);
        x.lies(2);
        return x;
    }

    static MarkedChains rich() {
        MarkedChains x = emptyTape();
        Check.put(x, "play 3;cut 1");
        return x;
    }

    private static MarkedChains full(String text) {
        MarkedChains x = Check.of(text);
        x.keep(1);
        x.settle(3, 3);
        x.lies(2);
        Check.put(x, "play 4;cut 1");
        return x;
    }

    private static MarkedChains fullPlans() {
        return full(Edges.many("play 3", 16, "letter 1 0 1 0:0"));
    }

    private static MarkedChains fullOmits() {
        return full(Edges.many("play 3", 12, "omit #"));
    }

    private static MarkedChains fullLates() {
        return full(Edges.many("play 3", 12, "late # 1"));
    }

    private static final Edges.Scene IN_RICH = EdgesOfActs::rich;
    private static final Edges.Scene IN_FULL_PLANS = EdgesOfActs::fullPlans;
    private static final Edges.Scene IN_FULL_OMITS = EdgesOfActs::fullOmits;
    private static final Edges.Scene IN_FULL_LATES = EdgesOfActs::fullLates;
    private static final Edges.Scene IN_NEW = MarkedChains::new;

    private static final int[] LEAST = {0, 0, 1, 0, 1};
    private static final int[] MOST = {4, 3, 8, 3, 4};
    private static final int[] WAS = {1, 0, 2, 2, 2};

    private void settle() {
        e.says(5, "A SETTING is told (what 0: SENDER, 1: VALUE, 2: ROUNDS, 3: DEFAULT, 4: CUT): what it was");
        for (int what = 0; what <= 4; what++) {
            for (int v = LEAST[what]; v <= MOST[what]; v++) {
                if (v != WAS[what]) {
                    settled(what, v);
                }
            }
        }
        for (int n = 3; n <= 8; n++) {
            MarkedChains x = Check.of("play " + n);
            e.due("the last party of " + n, x.settle(0, n - 1), 0);
            e.due("one behind it", x.settle(0, n), -1);
            e.due("back to the first", x.settle(0, 0), n - 1);
        }
    }

    private void settled(int what, int v) {
        MarkedChains x = rich();
        e.due("settle(" + what + ", " + v + ")", x.settle(what, v), WAS[what]);
        for (int other = 0; other <= 4; other++) {
            e.due("count(" + (other + 1) + ")", x.count(other + 1), other == what ? v : WAS[other]);
        }
        e.due("it is an act", x.count(10), 5);
        e.due("settle(" + what + ", " + v + ") again", x.settle(what, v), -2);
        e.due("back again", x.settle(what, WAS[what]), v);
    }

    private void settleRefused() {
        e.says(5, "NONE, and nothing happens, for others");
        for (int what = 0; what <= 4; what++) {
            int w = what;
            int[] bad = {LEAST[what] - 1, MOST[what] + 1, -1, -2, 9};
            for (int v : bad) {
                e.refused("settle(" + w + ", " + v + ")", IN_RICH, x -> x.settle(w, v), -1);
            }
            e.wraps("settle", IN_RICH, (x, a) -> x.settle(a[0], a[1]), what, WAS[what] == 2 ? 3 : 2);
        }
        for (int v = 0; v <= 4; v++) {
            int value = v;
            e.refused("settle(-1, " + v + ")", IN_RICH, x -> x.settle(-1, value), -1);
            e.refused("settle(5, " + v + ")", IN_RICH, x -> x.settle(5, value), -1);
        }
        e.says(5, "NONE, and nothing happens, .. without a PLAY");
        for (int what = 0; what <= 4; what++) {
            int w = what;
            for (int v = 0; v <= 3; v++) {
                int value = v;
                e.refused("settle(" + w + ", " + v + ")", IN_NEW, x -> x.settle(w, value), -1);
            }
        }
        e.says(5, "-2: it is so");
        for (int what = 0; what <= 4; what++) {
            int w = what;
            e.refused("settle(" + w + ", " + WAS[w] + ")", IN_RICH, x -> x.settle(w, WAS[w]), -2);
        }
    }

    private void lies() {
        e.says(6, "A PARTY is a LIAR, or is none any more: 1 if it is one now, else 0");
        for (int n = 3; n <= 8; n++) {
            MarkedChains x = Check.of("play " + n);
            for (int p = 0; p < n; p++) {
                e.due("lies(" + p + ")", x.lies(p), 1);
                e.due("liars", x.count(6), (2 << p) - 1);
            }
            e.due("none is honest", x.sound(), 0);
            for (int p = 0; p < n; p++) {
                e.due("lies(" + p + ") again", x.lies(p), 0);
                e.due("liars", x.count(6), (1 << n) - (2 << p));
            }
            e.due("all are honest", x.sound(), (1 << n) - 1);
        }
        e.says(6, "NONE, and nothing happens, without it");
        for (int n = 3; n <= 8; n++) {
            int parties = n;
            Edges.Scene scene = () -> full("play " + parties + ";liar 0");
            e.refused("lies(" + n + ")", scene, x -> x.lies(parties), -1);
            e.refused("lies(-1)", scene, x -> x.lies(-1), -1);
        }
        e.refused("lies(-2)", IN_RICH, x -> x.lies(-2), -1);
        e.wraps("lies", IN_RICH, (x, a) -> x.lies(a[0]), 4);
        e.wraps("lies", IN_RICH, (x, a) -> x.lies(a[0]), 0);
        e.refused("lies(0) without a play", IN_NEW, x -> x.lies(0), -1);
        e.refused("lies(-1) without a play", IN_NEW, x -> x.lies(-1), -1);
    }

    private void planned(int round, int from, int to, int value, int marks) {
        MarkedChains x = rich();
        e.due("plan of " + marks, x.plan(round, from, to, value, marks), 2);
        e.plan(x, 0, 1, 1, 0, 2, 2);
        e.plan(x, 1, 2, 4, 2, 0, 25);
        e.plan(x, 2, round, from, to, value, marks);
        e.due("how many", x.count(7), 3);
        e.due("it is an act", x.count(10), 5);
    }

    private void notPlanned(int round, int from, int to, int value, int marks) {
        e.refused("plan(" + round + ", " + from + ", " + to + ", " + value + ", " + marks + ")", IN_RICH,
                x -> x.plan(round, from, to, value, marks), -1);
    }

    private void plan() {
        e.says(7, "One PLANNED LETTER more, behind the others, .. : its number");
        planned(1, 0, 4, 0, 1);
        planned(8, 4, 0, 3, 5);
        planned(2, 3, 1, 1, 54321);
        // Neither a LIAR's nor with MARKS that are known, and told once more: a PLANNED LETTER all the same.
        planned(1, 0, 1, 2, 123);
        planned(1, 1, 0, 2, 2);
        MarkedChains x = Check.of("play 3");
        for (int i = 0; i < 16; i++) {
            e.due("plan", x.plan(1 + i % 8, i % 3, (i + 1) % 3, i % 4, 1 + i % 3), i);
            e.plan(x, i, 1 + i % 8, i % 3, (i + 1) % 3, i % 4, 1 + i % 3);
        }
        e.says(7, "NONE, and nothing happens, without that ROUND (1 to 8)");
        notPlanned(0, 1, 0, 2, 2);
        notPlanned(9, 1, 0, 2, 2);
        notPlanned(-1, 1, 0, 2, 2);
        e.says(7, "NONE, and nothing happens, without .. those PARTIES (unlike ones)");
        notPlanned(1, 5, 0, 2, 2);
        notPlanned(1, -1, 0, 2, 2);
        notPlanned(1, 1, 5, 2, 2);
        notPlanned(1, 1, -1, 2, 2);
        for (int p = 0; p < 5; p++) {
            notPlanned(1, p, p, 2, 2);
        }
        notPlanned(1, 5, 5, 2, 2);
        e.says(7, "NONE, and nothing happens, without .. VALUE");
        notPlanned(1, 1, 0, 4, 2);
        notPlanned(1, 1, 0, -1, 2);
        e.wraps("plan", IN_RICH, (y, a) -> y.plan(a[0], a[1], a[2], a[3], 2), 8, 4, 0, 3);
        e.says(7, "NONE, and nothing happens: without a PLAY");
        e.refused("plan", IN_NEW, y -> y.plan(1, 0, 1, 0, 1), -1);
        e.refused("plan", IN_NEW, y -> y.plan(1, 0, 0, 0, 0), -1);
    }

    private void planMarks() {
        e.says(7, "MARKS as a number (the digits of it less 1, the first in front, 1 to 8 each, no two alike)");
        int[] good = {1, 8, 18, 81, 12, 876, 1234567, 12345678, 87654321, 81234567, 21345678};
        for (int marks : good) {
            MarkedChains x = Check.of("play 8");
            e.due("marks " + marks, x.plan(1, 0, 1, 0, marks), 0);
            e.due("marks " + marks, x.planned(0, 4), marks);
        }
        int[] bad = {0, -1, -12, -8, 9, 10, 80, 19, 91, 102, 120, 1002, 1020, 11, 88, 121, 1123, 3211, 12345677,
            12345671, 12345679, 12345670, 10000000, 80000000, 90000000, 99999999, 100000000, 100000001, 100000012,
            123456781, 123456780, 123456789, 187654321, 812345678, 876543219, 1000000000, 1000000001, 1234567812,
            2012345678, 2147483647, Edges.MIN, Edges.MIN + 1};
        for (int marks : bad) {
            Edges.Scene eight = () -> full("play 8;liar 0");
            e.refused("marks " + marks, eight, x -> x.plan(1, 0, 1, 0, marks), -1);
        }
        e.says(7, "NONE, and nothing happens, without .. MARKS of PARTIES that there are");
        for (int n = 3; n <= 8; n++) {
            int last = n;
            e.due("the last party's", Check.of("play " + n).plan(1, 0, 1, 0, n), 0);
            e.due("all", Check.of("play " + n).plan(1, 0, 1, 0, 12345678 / tenTo(8 - n)), 0);
            Edges.Scene scene = () -> full("play " + last + ";liar 0");
            e.refused("one behind it", scene, x -> x.plan(1, 0, 1, 0, last + 1), -1);
            e.refused("one behind it, last", scene, x -> x.plan(1, 0, 1, 0, 10 + last + 1), -1);
            e.refused("one behind it, first", scene, x -> x.plan(1, 0, 1, 0, 10 * (last + 1) + 1), -1);
        }
    }

    private static int tenTo(int n) {
        int ten = 1;
        for (int i = 0; i < n; i++) {
            ten *= 10;
        }
        return ten;
    }

    private void planFull() {
        e.says(7, "-3: there are 16");
        e.refused("a 17th", IN_FULL_PLANS, x -> x.plan(1, 0, 1, 0, 1), -3);
        e.refused("a 17th", IN_FULL_PLANS, x -> x.plan(8, 2, 1, 3, 321), -3);
        MarkedChains x = fullPlans();
        e.due("one goes", x.drop(0, 3), 15);
        e.due("the 16th", x.plan(8, 2, 1, 3, 321), 15);
        e.due("a 17th", x.plan(8, 2, 1, 3, 321), -3);
        e.due("omits are not counted", fullPlans().omit(1, 0, 1), 0);
        e.due("lates are not counted", fullPlans().late(1, 0, 1, 1), 0);
    }

    private void drop() {
        e.says(8, "A PLANNED LETTER (kind 0), an OMIT (1), a LATE (2) goes; those behind it get a number less: "
                + "how many are left of its kind");
        for (int kind = 0; kind <= 2; kind++) {
            for (int k = 0; k < 4; k++) {
                dropped(kind, k);
            }
        }
        MarkedChains x = fullPlans();
        e.due("the first of 16", x.drop(0, 0), 15);
        e.due("the last of 15", x.drop(0, 14), 14);
        x = fullOmits();
        e.due("the last of 12", x.drop(1, 11), 11);
        e.way(x, 1, 10, 3, 1, 2);
        e.due("the first of 11", x.drop(1, 0), 10);
        e.way(x, 1, 9, 3, 1, 2);
        e.way(x, 1, 0, 2, 0, 2);
        x = fullLates();
        e.due("the last of 12", x.drop(2, 11), 11);
        e.due("the first of 11", x.drop(2, 0), 10);
        e.way(x, 2, 9, 3, 1, 2, 1);
        e.due("down to the last one", downToNone(rich(), 0), 2);
        e.due("down to the last one", downToNone(fullOmits(), 1), 12);
        e.due("down to the last one", downToNone(fullLates(), 2), 12);
        dropRefused();
    }

    /** Of four the k-th goes: the others stay in their order. */
    private void dropped(int kind, int k) {
        MarkedChains x = Check.of("play 3;letter 1 0 1 0:0;letter 2 1 2 1:1;letter 3 2 0 2:2;letter 4 0 2 3:0 1;"
                + "omit 1 0 1;omit 2 1 2;omit 3 2 0;omit 4 0 2;late 1 0 1 1;late 2 1 2 2;late 3 2 0 3;late 4 0 2 4");
        e.due("drop(" + kind + ", " + k + ")", x.drop(kind, k), 3);
        for (int other = 0; other <= 2; other++) {
            int left = other == kind ? 3 : 4;
            e.due("how many of kind " + other, x.count(7 + other), left);
            for (int i = 0; i < left; i++) {
                int round = 1 + i + (other == kind && i >= k ? 1 : 0);
                e.due("the round of the " + i + "-th", other == 0 ? x.planned(i, 0) : x.fault(other, i, 0), round);
                e.due("its last number", other == 0 ? x.planned(i, 3) + 1 : x.fault(other, i, 3), other == 1 ? 0 : round);
                e.due("from", other == 0 ? x.planned(i, 1) : x.fault(other, i, 1), (round - 1) % 3);
                e.due("its marks", other == 0 ? x.planned(i, 4) : 0, other > 0 ? 0 : round == 4 ? 12 : round);
            }
        }
        e.due("it is an act", x.count(10), 1);
    }

    private static int downToNone(MarkedChains x, int kind) {
        int dropped = 0;
        while (x.count(7 + kind) > 0 && x.drop(kind, 0) == x.count(7 + kind)) {
            dropped++;
        }
        return x.drop(kind, 0) == -1 ? dropped : -1;
    }

    private void dropRefused() {
        e.says(8, "NONE, and nothing happens, without these");
        for (int kind = 0; kind <= 2; kind++) {
            int of = kind;
            e.refused("drop(" + kind + ", 2)", IN_RICH, x -> x.drop(of, 2), -1);
            e.refused("drop(" + kind + ", -1)", IN_RICH, x -> x.drop(of, -1), -1);
            e.wraps("drop", IN_RICH, (x, a) -> x.drop(a[0], a[1]), kind, 1);
            e.refused("drop(" + kind + ", 0) of none", () -> full("play 3"), x -> x.drop(of, 0), -1);
            e.refused("drop(" + kind + ", 0) without a play", IN_NEW, x -> x.drop(of, 0), -1);
        }
        e.refused("drop(3, 0)", IN_RICH, x -> x.drop(3, 0), -1);
        e.refused("drop(-1, 0)", IN_RICH, x -> x.drop(-1, 0), -1);
        e.refused("drop(0, 16)", IN_FULL_PLANS, x -> x.drop(0, 16), -1);
        e.refused("drop(1, 12)", IN_FULL_OMITS, x -> x.drop(1, 12), -1);
        e.refused("drop(2, 12)", IN_FULL_LATES, x -> x.drop(2, 12), -1);
    }

    private void omit() {
        e.says(9, "One OMIT more, behind the others: its number");
        int[][] good = {{1, 0, 4}, {8, 4, 0}, {1, 3, 2}, {2, 2, 3}, {1, 2, 4}, {1, 1, 3}, {2, 0, 3}};
        for (int[] g : good) {
            MarkedChains x = rich();
            e.due("omit", x.omit(g[0], g[1], g[2]), 2);
            e.way(x, 1, 0, 1, 2, 3, 0);
            e.way(x, 1, 1, 2, 3, 0, 0);
            e.way(x, 1, 2, g[0], g[1], g[2], 0);
            e.due("it is an act", x.count(10), 5);
        }
        MarkedChains y = Check.of("play 3");
        for (int i = 0; i < 12; i++) {
            e.due("omit", y.omit(1 + i % 8, i / 8, 2), i);
        }
        e.says(9, "NONE, and nothing happens, without that ROUND (1 to 8), those PARTIES (unlike ones)");
        int[][] bad = {{0, 0, 4}, {9, 0, 4}, {-1, 0, 4}, {1, 5, 4}, {1, -1, 4}, {1, 0, 5}, {1, 0, -1}, {1, 0, 0},
            {1, 4, 4}, {1, 5, 5}, {1, -1, -1}};
        for (int[] b : bad) {
            e.refused("omit(" + b[0] + ", " + b[1] + ", " + b[2] + ")", IN_RICH, x -> x.omit(b[0], b[1], b[2]), -1);
        }
        e.wraps("omit", IN_RICH, (x, a) -> x.omit(a[0], a[1], a[2]), 8, 4, 0);
        for (int n = 3; n <= 7; n++) {
            int parties = n;
            e.refused("from one behind the last", () -> full("play " + parties), x -> x.omit(1, parties, 0), -1);
            e.refused("to one behind the last", () -> full("play " + parties), x -> x.omit(1, 0, parties), -1);
        }
        e.refused("omit without a play", IN_NEW, x -> x.omit(1, 0, 1), -1);
    }

    private void omitRefused() {
        e.says(9, "-2: it is one");
        e.refused("the first", IN_RICH, x -> x.omit(1, 2, 3), -2);
        e.refused("the last", IN_RICH, x -> x.omit(2, 3, 0), -2);
        e.due("there is only a late", rich().omit(2, 0, 3), 2);
        e.due("the other way round", rich().omit(1, 3, 2), 2);
        MarkedChains x = rich();
        x.drop(1, 0);
        e.due("it is none any more", x.omit(1, 2, 3), 1);
        e.says(9, "-3: there are 12");
        e.refused("a 13th", IN_FULL_OMITS, y -> y.omit(8, 1, 2), -3);
        e.refused("a 13th", IN_FULL_OMITS, y -> y.omit(1, 2, 0), -3);
        e.due("one less", Check.of(Edges.many("play 3", 11, "omit #")).omit(8, 1, 2), 11);
        e.due("lates are not counted", fullLates().omit(1, 0, 2), 0);
        x = fullOmits();
        x.drop(1, 5);
        e.due("one went", x.omit(8, 1, 2), 11);
        e.way(x, 1, 11, 8, 1, 2, 0);
        x.drop(1, 11);
        e.due("the last one went", x.omit(8, 1, 2), 11);
        x.undo();
        x.undo();
        e.due("it is one again", x.omit(8, 1, 2), -2);
    }

    private void late() {
        e.says(10, "One LATE more, behind the others (by 1 to 7): its number");
        int[][] good = {{1, 0, 4, 1}, {8, 4, 0, 7}, {2, 3, 0, 2}, {1, 0, 3, 2}, {2, 1, 3, 2}, {2, 0, 4, 2}, {1, 2, 3, 3}};
        for (int[] g : good) {
            MarkedChains x = rich();
            e.due("late", x.late(g[0], g[1], g[2], g[3]), 2);
            e.way(x, 2, 0, 2, 0, 3, 2);
            e.way(x, 2, 1, 8, 3, 4, 7);
            e.way(x, 2, 2, g[0], g[1], g[2], g[3]);
            e.due("it is an act", x.count(10), 5);
        }
        MarkedChains y = Check.of("play 3");
        for (int i = 0; i < 12; i++) {
            e.due("late", y.late(1 + i % 8, i / 8, 2, 1 + i % 7), i);
            e.way(y, 2, i, 1 + i % 8, i / 8, 2, 1 + i % 7);
        }
        e.says(10, "NONE, and nothing happens, without these");
        int[][] bad = {{0, 0, 4, 1}, {9, 0, 4, 1}, {-1, 0, 4, 1}, {1, 5, 4, 1}, {1, -1, 4, 1}, {1, 0, 5, 1},
            {1, 0, -1, 1}, {1, 0, 0, 1}, {1, 4, 4, 1}, {1, 5, 5, 1}, {1, 0, 4, 0}, {1, 0, 4, 8}, {1, 0, 4, -1}};
        for (int[] b : bad) {
            e.refused("late(" + b[0] + ", " + b[1] + ", " + b[2] + ", " + b[3] + ")", IN_RICH,
                    x -> x.late(b[0], b[1], b[2], b[3]), -1);
        }
        e.wraps("late", IN_RICH, (x, a) -> x.late(a[0], a[1], a[2], a[3]), 8, 4, 0, 7);
        for (int n = 3; n <= 7; n++) {
            int parties = n;
            e.refused("from one behind the last", () -> full("play " + parties), x -> x.late(1, parties, 0, 1), -1);
            e.refused("to one behind the last", () -> full("play " + parties), x -> x.late(1, 0, parties, 1), -1);
        }
        e.refused("late without a play", IN_NEW, x -> x.late(1, 0, 1, 1), -1);
    }

    private void lateRefused() {
        e.says(10, "-2: there is one of that ROUND, these PARTIES");
        for (int by = 1; by <= 7; by++) {
            int rounds = by;
            e.refused("the first, by " + by, IN_RICH, x -> x.late(2, 0, 3, rounds), -2);
            e.refused("the last, by " + by, IN_RICH, x -> x.late(8, 3, 4, rounds), -2);
        }
        e.due("there is only an omit", rich().late(1, 2, 3, 1), 2);
        e.due("the other way round", rich().late(2, 3, 0, 2), 2);
        MarkedChains x = rich();
        x.drop(2, 0);
        e.due("there is none any more", x.late(2, 0, 3, 7), 1);
        e.says(10, "-3: there are 12");
        e.refused("a 13th", IN_FULL_LATES, y -> y.late(8, 1, 2, 1), -3);
        e.refused("a 13th", IN_FULL_LATES, y -> y.late(1, 2, 0, 7), -3);
        e.due("one less", Check.of(Edges.many("play 3", 11, "late # 1")).late(8, 1, 2, 1), 11);
        e.due("omits are not counted", fullOmits().late(1, 0, 2, 1), 0);
        x = fullLates();
        x.drop(2, 5);
        e.due("one went", x.late(8, 1, 2, 7), 11);
        e.way(x, 2, 11, 8, 1, 2, 7);
        x.drop(2, 11);
        e.due("the last one went", x.late(8, 1, 2, 6), 11);
        x.undo();
        x.undo();
        e.due("there is one again", x.late(8, 1, 2, 6), -2);
    }

    private void attack() {
        e.says(11, "PLANNED LETTERS are one alone, in place of all there were");
        MarkedChains x = rich();
        e.due("attack", x.attack(), 2);
        e.due("in place of two", x.count(7), 1);
        e.plan(x, 0, 2, 2, 0, 3, 23);
        e.due("it is an act", x.count(10), 5);
        e.due("once more", x.attack(), 2);
        e.due("one still", x.count(7), 1);
        e.due("an act, though nothing is another", x.count(10), 6);
        x = Check.of(Edges.many("play 3;liar 0", 16, "letter 1 0 1 0:0"));
        e.due("in place of 16", x.attack(), 1);
        e.plan(x, 0, 1, 0, 1, 1, 1);
        e.due("one", x.count(7), 1);
        x = Check.of("play 3;liar 0;omit 1 0 1;late 1 0 1 1");
        e.due("in place of none", x.attack(), 1);
        e.counts(x, 7, 1, 1, 1);
        e.says(11, "of the VALUE that is one more than DEFAULT (of 4 the rest)");
        for (int other = 0; other < 4; other++) {
            x = Check.of("play 3;liar 0;default " + other);
            x.attack();
            e.due("value behind default " + other, x.planned(0, 3), other == 3 ? 0 : other + 1);
        }
        e.says(11, "with the MARKS of the SENDER and, behind it, of the least other LIARS, so many in all as there are "
                + "ROUNDS, from the last of these to the least honest PARTY: how many MARKS");
        int[] marks = {6, 61, 612, 6123, 61234, 612345};
        int[] from = {5, 0, 1, 2, 3, 4};
        for (int rounds = 1; rounds <= 6; rounds++) {
            x = Check.of("play 8;sender 5;rounds " + rounds + ";liar 0 1 2 3 4 5");
            e.due("attack in " + rounds, x.attack(), rounds);
            e.plan(x, 0, rounds, from[rounds - 1], 6, 1, marks[rounds - 1]);
            e.due("they part", x.alike(), 0);
        }
        x = Check.of("play 8;sender 2;rounds 3;liar 7 6 2 4");
        e.due("the greatest is not needed", x.attack(), 3);
        e.plan(x, 0, 3, 6, 0, 1, 357);
    }

    private void attackRefused() {
        e.says(11, "NONE, and nothing happens, without a PLAY");
        e.refused("attack", IN_NEW, x -> x.attack(), -1);
        e.says(11, "-2: the SENDER is no LIAR");
        e.refused("another one is", () -> full("play 5;sender 1;liar 0 3;letter 1 0 1 0:0"), x -> x.attack(), -2);
        e.refused("none is", () -> Check.of("play 8"), x -> x.attack(), -2);
        e.says(11, "-2: .. there are fewer LIARS than ROUNDS");
        for (int rounds = 2; rounds <= 8; rounds++) {
            int number = rounds;
            String liars = "0 1 2 3 4 5".substring(0, 2 * Math.min(rounds - 1, 6) - 1);
            Edges.Scene scene = () -> Check.of("play 8;rounds " + number + ";liar " + liars + ";letter 1 0 1 0:0");
            e.refused("liars " + liars + " in " + rounds, scene, x -> x.attack(), -2);
        }
        e.due("as many", Check.of("play 8;rounds 6;liar 0 1 2 3 4 5").attack(), 6);
        e.due("one more", Check.of("play 8;rounds 5;liar 0 1 2 3 4 5").attack(), 5);
        e.says(11, "-2: .. or fewer than 2 honest PARTIES");
        for (int n = 3; n <= 8; n++) {
            String liars = "0 1 2 3 4 5 6 7";
            int parties = n;
            e.due("two of " + n, Check.of("play " + n + ";liar " + liars.substring(0, 2 * (n - 2) - 1)).attack(), 1);
            e.refused("one of " + n, () -> Check.of("play " + parties + ";liar " + liars.substring(0, 2 * (parties - 1) - 1)),
                    x -> x.attack(), -2);
            e.refused("none of " + n, () -> Check.of("play " + parties + ";liar " + liars.substring(0, 2 * parties - 1)),
                    x -> x.attack(), -2);
        }
    }

    private void trade() {
        e.says(12, "Two PARTIES change their numbers in all of the PLAY (SENDER, LIARS, PLANNED LETTERS, MARKS, OMITS, "
                + "LATES): how many PARTIES");
        MarkedChains x = Check.of("play 8;sender 7;liar 7 3;letter 1 7 0 2:7 3 0;letter 8 3 7 1:0 7;omit 1 0 7;late 2 7 3 4;late 3 0 1 7");
        e.due("trade(0, 7)", x.trade(0, 7), 8);
        e.counts(x, 0, 8, 0, 0, 1, 0, 2, 0b1001, 2, 1, 2, 1);
        e.plan(x, 0, 1, 0, 7, 2, 148);
        e.plan(x, 1, 8, 3, 0, 1, 81);
        e.way(x, 1, 0, 1, 7, 0, 0);
        e.way(x, 2, 0, 2, 0, 3, 4);
        e.way(x, 2, 1, 3, 7, 1, 7);
        String traded = Edges.picture(x);
        e.due("back again", x.trade(7, 0), 8);
        e.due("the sender", x.count(1), 7);
        e.due("once more", x.trade(7, 0), 8);
        e.due("as the first time", x.undo() + x.undo(), 2 + 1);
        e.due("the same play", traded.equals(Edges.picture(x)) ? 1 : 0, 1);
        x = Check.of("play 3");
        e.due("two honest ones, of which nothing is told", x.trade(1, 2), 3);
        e.due("it is an act", x.count(10), 1);
        x = Check.of("play 3;liar 1 2");
        e.due("two liars", x.trade(1, 2), 3);
        e.due("both are", x.count(6), 6);
        x = Check.of("play 4;value 2;rounds 2;liar 3");
        e.due("the sender and a liar", x.trade(0, 3), 4);
        e.due("what it sends", x.letter(0, 1), 3);
        tradeFull();
        e.says(12, "NONE, and nothing happens, without these (unlike ones)");
        for (int p = 0; p < 5; p++) {
            int party = p;
            e.refused("one and the same", IN_RICH, y -> y.trade(party, party), -1);
            e.refused("with 5", IN_RICH, y -> y.trade(party, 5), -1);
            e.refused("5 with it", IN_RICH, y -> y.trade(5, party), -1);
            e.refused("with -1", IN_RICH, y -> y.trade(party, -1), -1);
            e.refused("-1 with it", IN_RICH, y -> y.trade(-1, party), -1);
        }
        e.wraps("trade", IN_RICH, (y, a) -> y.trade(a[0], a[1]), 4, 0);
        e.refused("without a play", IN_NEW, y -> y.trade(0, 1), -1);
        e.refused("8 of 8", () -> full("play 8"), y -> y.trade(8, 7), -1);
    }

    private void tradeFull() {
        MarkedChains x = Check.of(Edges.many("play 3", 16, "letter 1 0 2 0:0 2"));
        e.due("16 letters", x.trade(0, 2), 3);
        for (int k = 0; k < 16; k++) {
            e.plan(x, k, 1, 2, 0, 0, 31);
        }
        x = Check.of(Edges.many("play 3", 12, "omit #"));
        e.due("12 omits", x.trade(2, 0), 3);
        for (int k = 0; k < 12; k++) {
            e.way(x, 1, k, 1 + k % 8, k < 8 ? 2 : 1, 0, 0);
        }
        x = Check.of(Edges.many("play 3", 12, "late # 7"));
        e.due("12 lates", x.trade(2, 0), 3);
        for (int k = 0; k < 12; k++) {
            e.way(x, 2, k, 1 + k % 8, k < 8 ? 2 : 1, 0, 7);
        }
    }

    /** An ACT, and UNDONE: all is as it was. */
    private void undone(String act, Edges.Call call) {
        MarkedChains x = rich();
        String before = Edges.picture(x);
        e.due(act + " is not refused", call.on(x) >= 0 ? 1 : 0, 1);
        e.due(act + " can be undone", x.count(10), 5);
        e.due("undo of " + act, x.undo(), 4);
        e.due("all is as before " + act, before.equals(Edges.picture(x)) ? 1 : 0, 1);
    }

    private void undo() {
        e.says(0, "ACTS: all from settle() to trade()");
        undone("settle", x -> x.settle(0, 0));
        undone("settle", x -> x.settle(1, 3));
        undone("settle", x -> x.settle(2, 8));
        undone("settle", x -> x.settle(3, 0));
        undone("settle", x -> x.settle(4, 1));
        undone("lies", x -> x.lies(0));
        undone("lies", x -> x.lies(1));
        undone("plan", x -> x.plan(1, 4, 0, 3, 5));
        for (int k = 0; k < 6; k++) {
            int kind = k / 2;
            int which = k % 2;
            undone("drop", x -> x.drop(kind, which));
        }
        undone("omit", x -> x.omit(8, 0, 1));
        undone("late", x -> x.late(1, 0, 1, 7));
        undone("attack", x -> x.attack());
        undone("trade", x -> x.trade(0, 4));
        undone("trade", x -> x.trade(1, 2));
        e.says(13, "The last ACT is UNDONE: how many more can be");
        MarkedChains x = rich();
        e.due("lies(2)", x.undo(), 3);
        e.counts(x, 6, 18, 2, 2, 2);
        e.due("late", x.undo(), 2);
        e.counts(x, 6, 18, 2, 2, 1);
        e.due("omit", x.undo(), 1);
        e.counts(x, 6, 18, 2, 1, 1);
        e.due("settle", x.undo(), 0);
        e.counts(x, 1, 1, 0, 2, 3, 2, 18, 2, 1, 1, 0);
        e.due("what is undone is no act", x.undo(), -1);
        e.says(13, "NONE, and nothing happens, if none can");
        e.refused("undo", IN_NEW, y -> y.undo(), -1);
        e.refused("undo", () -> Check.of(RICH), y -> y.undo(), -1);
        e.refused("undo behind back()", () -> backed(), y -> y.undo(), -1);
        e.refused("undo behind all undo()", () -> allUndone(), y -> y.undo(), -1);
    }

    private static MarkedChains backed() {
        MarkedChains x = rich();
        x.back(1);
        return x;
    }

    private static MarkedChains allUndone() {
        MarkedChains x = rich();
        for (int i = 0; i < 4; i++) {
            x.undo();
        }
        return x;
    }

    private void undoLastTen() {
        e.says(0, "The last 10 can be UNDONE, the last first");
        for (int acts = 1; acts <= 16; acts++) {
            MarkedChains x = Check.of("play 8");
            for (int i = 0; i < acts; i++) {
                x.plan(1, 0, 1, 0, 1);
                e.due("can be undone of " + (i + 1), x.count(10), Math.min(i + 1, 10));
            }
            int can = Math.min(acts, 10);
            for (int i = 1; i <= can; i++) {
                e.due("undo " + i + " of " + acts, x.undo(), can - i);
                e.due("plans", x.count(7), acts - i);
            }
            e.due("no more", x.undo(), -1);
            e.due("plans that stay", x.count(7), acts - can);
        }
        MarkedChains x = Check.of("play 8");
        plans(x, 12);
        undos(x, 5);
        e.counts(x, 7, 7, 0, 0, 5);
        plans(x, 8);
        e.counts(x, 7, 15, 0, 0, 10);
        undos(x, 9);
        e.counts(x, 7, 6, 0, 0, 1);
        plans(x, 9);
        e.counts(x, 7, 15, 0, 0, 10);
        undos(x, 10);
        e.counts(x, 7, 5, 0, 0, 0);
        e.due("no more", x.undo(), -1);
    }

    private static void plans(MarkedChains x, int times) {
        for (int i = 0; i < times; i++) {
            x.plan(1, 0, 1, 0, 1);
        }
    }

    private static void undos(MarkedChains x, int times) {
        for (int i = 0; i < times; i++) {
            x.undo();
        }
    }

    private void noActs() {
        e.says(0, "ACTS: all from settle() to trade(), no others");
        MarkedChains x = rich();
        x.keep(0);
        e.due("behind keep", x.count(10), 4);
        x.feed(0, 0, 0, 0, 0);
        e.due("behind feed", x.count(10), 4);
        x.end(3);
        e.due("behind end", x.count(10), 4);
        x.tell();
        e.due("behind a fault", x.count(10), 4);
        e.leaves("what is asked", IN_RICH, EdgesOfActs::asksAll);
    }

    private static long asksAll(MarkedChains x) {
        long sum = x.set(0, 1) + x.decision(0) + x.extracted(0, 2, 0) + x.letter(0, 0) + x.mark(0, 0) + x.packed(0);
        sum += x.open(78, 0) + x.sent(1) + x.forged(0) + x.known(0, 0) + x.alike() + x.valid() + x.sound();
        sum += x.parted() + x.slack(1, 1, 0) + x.slack(2, 0, 3) + x.crucial(1, -1) + x.crucial(2, 0) + x.least();
        sum += x.holders(0, 1) + x.path(0, 2, 0) + x.caught(0) + x.bits(1) + x.load(0, 1) + x.calm(0) + x.calm(1);
        return sum + x.heal() + x.count(3) + x.planned(0, 0) + x.fault(1, 0, 0);
    }

    private void keep() {
        e.says(14, "All is KEPT on a SHELF: how many PLANNED LETTERS");
        e.due("none", Check.of("play 3").keep(0), 0);
        e.due("16", fullPlans().keep(1), 16);
        MarkedChains x = rich();
        e.due("two", x.keep(0), 2);
        e.due("both shelves", x.count(12), 3);
        Check.tell(x, "play 3");
        e.due("back", x.back(0), 2);
        e.counts(x, 0, 5, 1, 0, 2, 2, 2, 22, 2, 2, 2, 0);
        e.plan(x, 0, 1, 1, 0, 2, 2);
        e.plan(x, 1, 2, 4, 2, 0, 25);
        e.way(x, 1, 0, 1, 2, 3, 0);
        e.way(x, 1, 1, 2, 3, 0, 0);
        e.way(x, 2, 0, 2, 0, 3, 2);
        e.way(x, 2, 1, 8, 3, 4, 7);
        e.says(0, "SHELVES 0, 1: the PLAY");
        x = Check.of("play 4");
        e.due("none", x.count(12), 0);
        x.keep(1);
        e.due("the second", x.count(12), 2);
        x.lies(0);
        x.keep(0);
        e.due("both", x.count(12), 3);
        x.lies(1);
        x.keep(1);
        e.due("the second anew", x.count(12), 3);
        x.lies(2);
        x.back(0);
        e.due("the first is as it was", x.count(6), 1);
        x.back(1);
        e.due("the second one's latest", x.count(6), 3);
        x = new MarkedChains();
        e.due("no play", x.keep(0), 0);
        e.due("no play is kept", x.count(12), 1);
        Check.tell(x, "play 3");
        e.due("no play is back", x.back(0), 0);
        e.due("parties", x.count(0), 0);
        e.says(14, "NONE, and nothing happens, without that SHELF");
        e.refused("keep(-1)", IN_RICH, y -> y.keep(-1), -1);
        e.refused("keep(2)", IN_RICH, y -> y.keep(2), -1);
        e.wraps("keep", IN_RICH, (y, a) -> y.keep(a[0]), 1);
        e.refused("keep(2) without a play", IN_NEW, y -> y.keep(2), -1);
    }

    private void back() {
        e.says(15, "All is as it was KEPT (nothing can be UNDONE then): how many PLANNED LETTERS");
        MarkedChains x = rich();
        e.due("back(0)", x.back(0), 2);
        e.counts(x, 0, 5, 1, 0, 2, 3, 2, 18, 2, 1, 1, 0, 12, 3);
        e.due("undo", x.undo(), -1);
        e.due("back(1)", x.back(1), 2);
        e.counts(x, 0, 5, 1, 0, 2, 2, 2, 18, 2, 2, 1, 0, 12, 3);
        e.due("an act", x.lies(0), 1);
        e.due("the shelf stays as it was", x.back(1), 2);
        e.counts(x, 6, 18, 2, 2, 1, 0, 12, 3);
        e.due("the tape stays", x.tell(), 3);
        e.due("shelves stay", x.back(0), 2);
        x = fullPlans();
        x.keep(0);
        x.drop(0, 0);
        e.due("16 are back", x.back(0), 16);
        x = Check.of("play 3");
        x.keep(0);
        x.plan(1, 0, 1, 0, 1);
        e.due("none is back", x.back(0), 0);
        e.says(15, "NONE, and nothing happens, without that SHELF");
        e.refused("back(-1)", IN_RICH, y -> y.back(-1), -1);
        e.refused("back(2)", IN_RICH, y -> y.back(2), -1);
        e.wraps("back", IN_RICH, (y, a) -> y.back(a[0]), 1);
        e.says(15, "-2: nothing is");
        e.refused("back(0)", IN_NEW, y -> y.back(0), -2);
        e.refused("back(1)", IN_NEW, y -> y.back(1), -2);
        e.refused("back(0)", IN_FULL_PLANS, y -> y.back(0), -2);
        e.refused("back(1)", EdgesOfActs::onlyFirst, y -> y.back(1), -2);
    }

    private static MarkedChains onlyFirst() {
        MarkedChains x = Check.of(RICH);
        x.lies(3);
        x.keep(0);
        x.lies(0);
        return x;
    }

    private void refusalsInOrder() {
        e.says(0, "(Refused: NONE ahead of -2, that ahead of -3.)");
        for (int what = 0; what <= 4; what++) {
            e.due("it is so, without a play", new MarkedChains().settle(what, what == 2 ? 1 : what == 4 ? 2 : 0), -1);
        }
        e.due("a 17th of no round", fullPlans().plan(0, 0, 1, 0, 1), -1);
        e.due("a 17th from none", fullPlans().plan(1, 3, 1, 0, 1), -1);
        e.due("a 17th to none", fullPlans().plan(1, 0, 3, 0, 1), -1);
        e.due("a 17th of no value", fullPlans().plan(1, 0, 1, 4, 1), -1);
        e.due("a 17th of no marks", fullPlans().plan(1, 0, 1, 0, 4), -1);
        e.due("it is one, of twelve", fullOmits().omit(1, 0, 2), -2);
        e.due("it is the last one, of twelve", fullOmits().omit(4, 1, 2), -2);
        e.due("a 13th of no round", fullOmits().omit(9, 0, 2), -1);
        e.due("a 13th of like parties", fullOmits().omit(1, 2, 2), -1);
        e.due("there is one, of twelve", fullLates().late(1, 0, 2, 7), -2);
        e.due("it is the last one, of twelve", fullLates().late(4, 1, 2, 7), -2);
        e.due("a 13th of no round", fullLates().late(9, 0, 2, 1), -1);
        e.due("a 13th by none", fullLates().late(8, 1, 2, 0), -1);
        e.due("there is one, by none", fullLates().late(1, 0, 2, 0), -1);
        e.due("there is one, by 8", rich().late(2, 0, 3, 8), -1);
        e.due("nothing is on no shelf", new MarkedChains().back(2), -1);
    }

    private void calls512() {
        e.says(0, "An object is used for at most 512 calls after it has been made");
        MarkedChains x = new MarkedChains();
        // "play 3" and blanks: two calls.
        x.feed(0x706c6179, 0x20332020, 0x20202020, 0x20202020, 0x20202020);
        x.tell();
        for (int call = 3; call <= 501; call++) {
            x.lies(call % 3);
        }
        for (int call = 502; call <= 511; call++) {
            e.due("call " + call, x.undo(), 511 - call);
        }
        e.due("call 512", x.undo(), -1);
    }
}
