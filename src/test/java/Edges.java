import java.util.ArrayList;
import java.util.IdentityHashMap;
import java.util.List;
import java.util.Map;

/**
 * What the tests of boundary cases share: sentences of the document, each with answers of its own,
 * and refused calls, behind which an object must go on like a twin on which they were not made.
 */
final class Edges {
    /** Makes an object by the same calls each time, so that there can be twins. */
    interface Scene {
        MarkedChains make();
    }

    interface Call {
        long on(MarkedChains x);
    }

    interface Args {
        long on(MarkedChains x, int[] a);
    }

    static final int MIN = Integer.MIN_VALUE;
    static final int MAX = Integer.MAX_VALUE;
    static final int PROMISES = 42;

    private static final int MOST_UNDONE = 10;

    private final Check check;
    private final boolean[] spoken = new boolean[PROMISES + 1];
    private final Map<Scene, List<String>> twins = new IdentityHashMap<>();
    private String sentence = "";
    private int answers = 1;

    Edges(Check check) {
        this.check = check;
    }

    /** Promise 0: the document's Terms. All answers that follow are of this sentence. */
    void says(int promise, String words) {
        check.holds(sentence + " has an answer", answers > 0);
        sentence = promise + ": " + words;
        spoken[promise] = true;
        answers = 0;
    }

    void finish() {
        says(0, "the end");
        answers = 1;
        for (int promise = 0; promise <= PROMISES; promise++) {
            check.holds("promise " + promise + " has a sentence", spoken[promise]);
        }
    }

    void due(String call, long got, long want) {
        answers++;
        check.due("[" + sentence + "] " + call, got, want);
    }

    /** The call answers so, and nothing happens: neither now nor to what is UNDONE, KEPT or told later. */
    void refused(String call, Scene scene, Call asked, long want) {
        due(call, asked.on(scene.make()), want);
        leaves(call, scene, asked);
    }

    void leaves(String call, Scene scene, Call asked) {
        List<String> twin = twins.computeIfAbsent(scene, s -> futures(s, x -> 0));
        List<String> seen = futures(scene, asked);
        for (int i = 0; i < twin.size(); i++) {
            answers++;
            check.holds("[" + sentence + "] nothing happens by " + call + ": " + seen.get(i) + " was " + twin.get(i),
                    seen.get(i).equals(twin.get(i)));
        }
    }

    /** Each number alone made greater by a power of two, up to the wrap-around: all are refused with NONE. */
    void wraps(String call, Scene scene, Args args, int... good) {
        MarkedChains x = scene.make();
        due(call + " with good numbers is not refused", args.on(x, good.clone()) == -1 ? 0 : 1, 1);
        for (int i = 0; i < good.length; i++) {
            int place = i;
            refused(call + ", number " + i + " wrapped around", scene, y -> notRefused(y, args, good, place), 0);
        }
    }

    private static long notRefused(MarkedChains x, Args args, int[] good, int place) {
        long taken = 0;
        for (int bit = 5; bit <= 31; bit++) {
            int[] bad = good.clone();
            bad[place] += 1 << bit;
            taken += args.on(x, bad) == -1 ? 0 : 1;
            bad[place] = good[place] - (1 << bit);
            taken += args.on(x, bad) == -1 ? 0 : 1;
        }
        int[] ends = {MIN, MIN + 1, MAX - 1, MAX};
        for (int end : ends) {
            int[] bad = good.clone();
            bad[place] = end;
            taken += args.on(x, bad) == -1 ? 0 : 1;
        }
        return taken;
    }

    /** What can still be seen of an object, each time of a new one, since looking uses up calls. */
    private static List<String> futures(Scene scene, Call first) {
        List<String> all = new ArrayList<>();
        for (int undone = 0; undone <= MOST_UNDONE; undone++) {
            MarkedChains x = made(scene, first);
            StringBuilder left = new StringBuilder("undone");
            for (int i = 0; i < undone; i++) {
                left.append(' ').append(x.undo());
            }
            all.add(left + picture(x));
        }
        for (int shelf = 0; shelf < 2; shelf++) {
            MarkedChains x = made(scene, first);
            all.add("shelf " + x.back(shelf) + picture(x));
        }
        MarkedChains x = made(scene, first);
        all.add("told " + x.tell() + picture(x));
        return all;
    }

    private static MarkedChains made(Scene scene, Call first) {
        MarkedChains x = scene.make();
        first.on(x);
        return x;
    }

    /** All of the PLAY, and enough of its LETTERS to see that they are those of this PLAY. */
    static String picture(MarkedChains x) {
        StringBuilder all = new StringBuilder(" counts");
        for (int what = 0; what <= 13; what++) {
            all.append(' ').append(x.count(what));
        }
        for (int k = 0; k < x.count(7); k++) {
            all.append(" plan");
            for (int what = 0; what <= 4; what++) {
                all.append(' ').append(x.planned(k, what));
            }
        }
        for (int kind = 1; kind <= 2; kind++) {
            for (int k = 0; k < x.count(7 + kind); k++) {
                all.append(kind == 1 ? " omit" : " late");
                for (int what = 0; what <= 3; what++) {
                    all.append(' ').append(x.fault(kind, k, what));
                }
            }
        }
        all.append(" letters ").append(x.letter(-1, 0));
        for (int party = 0; party < 8; party++) {
            all.append(' ').append(x.decision(party));
        }
        all.append(' ').append(x.sound()).append(' ').append(x.alike());
        all.append(' ').append(x.forged(0)).append(' ').append(x.forged(1));
        return all.toString();
    }

    /** Of a text that is none: its answer, and that the TAPE is empty and no PLAY is there. */
    void fault(String text, int place, int kind) {
        MarkedChains x = new MarkedChains();
        due("tell of '" + text + "'", Check.tell(x, text), -2 - (8 * place + kind));
        due("bytes of the tape behind '" + text + "'", x.count(11), 0);
        due("parties behind '" + text + "'", x.count(0), 0);
    }

    /** Of a text that tells a PLAY: how many PARTIES. */
    void told(String text, int parties) {
        MarkedChains x = new MarkedChains();
        due("tell of '" + text + "'", Check.tell(x, text), parties);
        due("parties behind '" + text + "'", x.count(0), parties);
        due("bytes of the tape behind '" + text + "'", x.count(11), 0);
    }

    /** The counts from 'first' on. */
    void counts(MarkedChains x, int first, int... wants) {
        for (int i = 0; i < wants.length; i++) {
            due("count(" + (first + i) + ")", x.count(first + i), wants[i]);
        }
    }

    /** A PLANNED LETTER whole. */
    void plan(MarkedChains x, int k, int... wants) {
        for (int what = 0; what <= 4; what++) {
            due("planned(" + k + ", " + what + ")", x.planned(k, what), wants[what]);
        }
    }

    /** An OMIT (three numbers wanted) or a LATE (four) whole. */
    void way(MarkedChains x, int kind, int k, int... wants) {
        for (int what = 0; what < wants.length; what++) {
            due("fault(" + kind + ", " + k + ", " + what + ")", x.fault(kind, k, what), wants[what]);
        }
    }

    /** A LETTER, as many of its seven numbers as are wanted. */
    void letter(MarkedChains x, int k, int... wants) {
        for (int what = 0; what < wants.length; what++) {
            due("letter(" + k + ", " + what + ")", x.letter(k, what), wants[what]);
        }
    }

    /** Text parts that are all of unlike ways: '#' stands for ROUND, FROM and TO. */
    static String many(String head, int count, String part) {
        StringBuilder text = new StringBuilder(head);
        for (int i = 0; i < count; i++) {
            text.append(';').append(part.replace("#", (1 + i % 8) + " " + i / 8 + " 2"));
        }
        return text.toString();
    }
}
