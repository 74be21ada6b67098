import java.util.Random;
import java.util.TreeMap;
import java.util.TreeSet;

/** Long random runs of calls, each answered by the program and by the model. */
public final class ModelTest {
    private static final int RUNS = 1500;
    private static final int CALLS = 300;
    private static final int[] WILD = {Integer.MIN_VALUE, -1000, -3, -2, -1, 0, 1, 2, 3, 4, 7, 8, 9, 10, 11,
        12, 13, 16, 17, 18, 31, 32, 63, 64, 400, 401, 123456789, Integer.MAX_VALUE - 1, Integer.MAX_VALUE};

    private final Check check = new Check("ModelTest");
    private final TreeMap<String, TreeSet<Long>> seen = new TreeMap<>();
    private final Random random = new Random(20261117L);
    private MarkedChains x = new MarkedChains();
    private Model m = new Model();
    private int run = 0;
    private int parties = 0;

    public static void main(String[] args) {
        ModelTest test = new ModelTest();
        for (test.run = 1; test.run <= RUNS; test.run++) {
            test.oneRun();
        }
        test.looksAtVariety();
        test.check.finish();
    }

    private void oneRun() {
        x = new MarkedChains();
        m = new Model();
        parties = 0;
        if (random.nextInt(10) > 0) {
            tellText();
        }
        for (int i = 0; i < CALLS; i++) {
            oneCall();
        }
    }

    /** Random runs prove little if nearly all calls are refused. */
    private void looksAtVariety() {
        String[] names = {"feed", "end", "tell", "settle", "lies", "plan", "drop", "omit", "late", "attack",
            "trade", "undo", "keep", "back", "set", "decision", "extracted", "letter", "mark", "packed", "open",
            "sent", "forged", "known", "alike", "valid", "sound", "parted", "slack", "crucial", "least",
            "holders", "path", "caught", "bits", "load", "calm", "heal", "count", "planned", "fault"};
        for (String name : names) {
            boolean refuses = !name.equals("alike") && !name.equals("valid") && !name.equals("sound");
            // By the rules a sound sender's value is what all sound parties decide: valid() is 1.
            int least = name.equals("valid") ? 1 : refuses ? 3 : 2;
            TreeSet<Long> answers = seen.getOrDefault(name, new TreeSet<>());
            check.holds(name + " was refused once", !refuses || answers.first() < 0);
            check.holds(name + " was varied: " + answers.size(), answers.size() >= least);
        }
    }

    private int wild() {
        return WILD[random.nextInt(WILD.length)];
    }

    private int in(int least, int most) {
        return random.nextInt(40) == 0 ? wild() : least + random.nextInt(most - least + 1);
    }

    private int party() {
        return in(0, Math.max(parties, 3) - 1);
    }

    private int round() {
        return random.nextInt(4) == 0 ? in(1, 8) : in(1, 3);
    }

    private int marks() {
        if (random.nextInt(15) == 0) {
            return random.nextBoolean() ? random.nextInt(200000000) : wild();
        }
        int digits = 0;
        boolean[] used = new boolean[9];
        int size = 1 + random.nextInt(Math.max(3, Math.min(parties, 6)));
        int sender = m.count(1);
        for (int i = 0; i < size; i++) {
            int party = i == 0 && random.nextInt(8) > 0 ? sender : liarOr(random.nextInt(Math.max(parties, 3)));
            if (!used[party] || random.nextInt(60) == 0) {
                used[party] = true;
                digits = digits * 10 + party + 1;
            }
        }
        return digits;
    }

    private int liarOr(int party) {
        int liars = m.count(6);
        for (int i = 0; i < 3; i++) {
            int other = random.nextInt(8);
            if ((liars >> other & 1) != 0) {
                return other;
            }
        }
        return party;
    }

    private void tellText() {
        RandomText maker = new RandomText(random);
        String text = random.nextBoolean() ? maker.make() : maker.makeCunning();
        if (random.nextInt(3) == 0) {
            text = RandomText.broken(random, text);
        }
        int[] five = new int[5];
        for (int at = 0; at < text.length(); at += 20) {
            Check.fill(five, text, at);
            answer("feed", x.feed(five[0], five[1], five[2], five[3], five[4]),
                    m.feed(five[0], five[1], five[2], five[3], five[4]));
        }
        answer("end", x.end(text.length()), m.end(text.length()));
        if (random.nextInt(8) == 0) {
            int n = random.nextInt(text.length() + 1);
            answer("end(" + n + ")", x.end(n), m.end(n));
        }
        int told = x.tell();
        check.due("run " + run + " tell of '" + text + "'", told, m.tell());
        seen.computeIfAbsent("tell", n -> new TreeSet<>()).add((long) told);
        parties = m.count(0);
    }

    /** Bytes that are no text, more of them than the tape takes; it is empty behind it. */
    private void fillTape() {
        for (int i = random.nextInt(50); i >= 0; i--) {
            int a = random.nextInt();
            int b = random.nextInt();
            int c = wild();
            answer("feed", x.feed(a, b, c, a ^ b, a), m.feed(a, b, c, a ^ b, a));
            int n = random.nextInt(9) == 0 ? wild() : m.count(11) - random.nextInt(2);
            answer("end(" + n + ")", x.end(n), m.end(n));
            answer("count(11)", x.count(11), m.count(11));
        }
        answer("tell()", x.tell(), m.tell());
    }

    private void answer(String call, long got, long want) {
        check.due("run " + run + " " + call, got, want);
        String name = call.replaceAll("\\W.*", "");
        seen.computeIfAbsent(name, n -> new TreeSet<>()).add(want);
    }

    private void oneCall() {
        if (random.nextInt(60) == 0) {
            tellText();
            return;
        }
        if (random.nextInt(150) == 0) {
            fillTape();
            return;
        }
        int kind = random.nextInt(100);
        if (kind < 22) {
            oneAct();
        } else if (kind < 27) {
            oneReturn();
        } else if (kind < 55) {
            askParties();
        } else if (kind < 80) {
            askLetters();
        } else if (kind < 92) {
            askAll();
        } else {
            askWhatIf();
        }
        parties = m.count(0);
    }

    private void oneAct() {
        int a = round();
        int b = party();
        int c = party();
        int d = in(0, 3);
        switch (random.nextInt(12)) {
            case 0:
                int what = in(0, 4);
                int value = random.nextBoolean() ? in(0, 3) : in(1, 8);
                answer("settle(" + what + ", " + value + ")", x.settle(what, value), m.settle(what, value));
                break;
            case 1:
                answer("lies(" + b + ")", x.lies(b), m.lies(b));
                break;
            case 2:
            case 3:
            case 4:
            case 5:
                int marks = marks();
                b = random.nextBoolean() ? b : liarOr(b);
                int times = random.nextInt(12) == 0 ? 9 : 1;
                for (int i = 0; i < times; i++) {
                    answer("plan(" + a + ", " + b + ", " + c + ", " + d + ", " + marks + ")",
                            x.plan(a, b, c, d, marks), m.plan(a, b, c, d, marks));
                }
                break;
            case 6:
                int kind = in(0, 2);
                int k = in(0, 4);
                answer("drop(" + kind + ", " + k + ")", x.drop(kind, k), m.drop(kind, k));
                break;
            case 7:
                manyOmits();
                break;
            case 8:
                manyLates();
                break;
            case 9:
                answer("attack()", x.attack(), m.attack());
                break;
            case 10:
                answer("trade(" + b + ", " + c + ")", x.trade(b, c), m.trade(b, c));
                break;
            default:
                answer("omit(" + a + ", " + b + ", " + c + ")", x.omit(a, b, c), m.omit(a, b, c));
                break;
        }
    }

    private void manyOmits() {
        int times = random.nextInt(10) == 0 ? 14 : 1;
        for (int i = 0; i < times; i++) {
            int a = times > 1 ? in(1, 8) : round();
            int b = party();
            int c = party();
            answer("omit(" + a + ", " + b + ", " + c + ")", x.omit(a, b, c), m.omit(a, b, c));
        }
    }

    private void manyLates() {
        int times = random.nextInt(10) == 0 ? 14 : 1;
        for (int i = 0; i < times; i++) {
            int a = times > 1 ? in(1, 8) : round();
            int b = party();
            int c = party();
            int by = random.nextBoolean() ? in(1, 2) : in(1, 7);
            answer("late(" + a + ", " + b + ", " + c + ", " + by + ")", x.late(a, b, c, by), m.late(a, b, c, by));
        }
    }

    private void oneReturn() {
        int shelf = in(0, 1);
        switch (random.nextInt(5)) {
            case 0:
                answer("keep(" + shelf + ")", x.keep(shelf), m.keep(shelf));
                break;
            case 1:
                answer("back(" + shelf + ")", x.back(shelf), m.back(shelf));
                break;
            default:
                int times = random.nextInt(6) == 0 ? 11 : 1;
                for (int i = 0; i < times; i++) {
                    answer("undo()", x.undo(), m.undo());
                }
                break;
        }
    }

    private void askParties() {
        int p = party();
        int v = in(0, 3);
        int r = in(0, Math.max(m.count(3), 1));
        int w = in(0, 3);
        int i = in(-1, 4);
        answer("set(" + p + ", " + r + ")", x.set(p, r), m.set(p, r));
        answer("decision(" + p + ")", x.decision(p), m.decision(p));
        answer("extracted(" + p + ", " + v + ", " + w + ")", x.extracted(p, v, w), m.extracted(p, v, w));
        answer("known(" + p + ", " + v + ")", x.known(p, v), m.known(p, v));
        answer("holders(" + v + ", " + r + ")", x.holders(v, r), m.holders(v, r));
        answer("path(" + p + ", " + v + ", " + i + ")", x.path(p, v, i), m.path(p, v, i));
        answer("caught(" + p + ")", x.caught(p), m.caught(p));
        int w13 = in(0, 13);
        answer("count(" + w13 + ")", x.count(w13), m.count(w13));
        int kind = in(1, 2);
        answer("planned(" + i + ", " + w + ")", x.planned(i, w + 1), m.planned(i, w + 1));
        answer("fault(" + kind + ", " + i + ", " + w + ")", x.fault(kind, i, w), m.fault(kind, i, w));
    }

    private void askLetters() {
        int sent = Math.max(m.letter(-1, 0), 1);
        int k = in(-1, sent);
        int w = in(0, 6);
        int i = in(0, 4);
        int r = random.nextInt(4) == 0 ? -1 : in(1, 8);
        answer("letter(" + k + ", " + w + ")", x.letter(k, w), m.letter(k, w));
        answer("mark(" + k + ", " + i + ")", x.mark(k, i), m.mark(k, i));
        answer("packed(" + k + ")", x.packed(k), m.packed(k));
        long packed = anyPacked(k);
        int what = random.nextBoolean() ? in(10, 17) : in(0, 1);
        answer("open(" + packed + ", " + what + ")", x.open(packed, what), m.open(packed, what));
        answer("sent(" + r + ")", x.sent(r), m.sent(r));
        answer("bits(" + r + ")", x.bits(r), m.bits(r));
        int from = random.nextInt(4) == 0 ? -1 : party();
        int to = party();
        answer("load(" + from + ", " + to + ")", x.load(from, to), m.load(from, to));
    }

    private long anyPacked(int k) {
        switch (random.nextInt(6)) {
            case 0:
                return random.nextInt(400000);
            case 1:
                return random.nextLong();
            case 2:
                return random.nextInt(180000000);
            case 3:
                return wild();
            default:
                return m.packed(k);
        }
    }

    private void askAll() {
        int w = in(0, 1);
        answer("forged(" + w + ")", x.forged(w), m.forged(w));
        answer("alike()", x.alike(), m.alike());
        answer("valid()", x.valid(), m.valid());
        answer("sound()", x.sound(), m.sound());
        answer("calm(" + w + ")", x.calm(w), m.calm(w));
        if (random.nextInt(6) == 0) {
            everyLetter();
        }
    }

    private void everyLetter() {
        for (int k = 0; k < m.letter(-1, 0); k++) {
            for (int w = 0; w <= 6; w++) {
                answer("letter(" + k + ", " + w + ")", x.letter(k, w), m.letter(k, w));
            }
            answer("packed(" + k + ")", x.packed(k), m.packed(k));
        }
    }

    private void askWhatIf() {
        int a = round();
        int b = party();
        int c = party();
        int sent = m.letter(-1, 0);
        if (sent > 0 && random.nextInt(4) > 0) {
            int some = random.nextInt(sent);
            a = m.letter(some, 0);
            b = m.letter(some, 1);
            c = m.letter(some, 2);
        }
        int k = in(-1, 5);
        switch (random.nextInt(5)) {
            case 0:
                answer("parted()", x.parted(), m.parted());
                break;
            case 1:
                answer("slack(" + a + ", " + b + ", " + c + ")", x.slack(a, b, c), m.slack(a, b, c));
                break;
            case 2:
                answer("crucial(" + a + ", " + k + ")", x.crucial(a, k), m.crucial(a, k));
                break;
            case 3:
                answer("least()", x.least(), m.least());
                break;
            default:
                answer("heal()", x.heal(), m.heal());
                break;
        }
    }
}
