import java.util.ArrayList;
import java.util.Arrays;
import java.util.List;
import java.util.TreeMap;
import java.util.TreeSet;

/**
 * The document's promises once more, slowly and with the Java library: nothing is kept between
 * calls but the play itself, and every answer is looked for in the letters from the beginning.
 */
final class Model {
    static final int NONE = -1;

    static final class Letter {
        int round;
        int from;
        int to;
        int value;
        List<Integer> marks = new ArrayList<>();
        int comes = NONE;
        int use = 0;
    }

    static final class Play {
        int parties = 0;
        int[] settings = {0, 0, 1, 0, 2};
        TreeSet<Integer> liars = new TreeSet<>();
        List<Letter> plans = new ArrayList<>();
        List<int[]> omits = new ArrayList<>();
        List<int[]> lates = new ArrayList<>();

        Play copy() {
            Play p = new Play();
            p.parties = parties;
            p.settings = settings.clone();
            p.liars.addAll(liars);
            for (Letter l : plans) {
                p.plans.add(letter(l.round, l.from, l.to, l.value, l.marks));
            }
            for (int[] o : omits) {
                p.omits.add(o.clone());
            }
            for (int[] l : lates) {
                p.lates.add(l.clone());
            }
            return p;
        }

        boolean has(int party) {
            return 0 <= party && party < parties;
        }

        boolean honest(int party) {
            return has(party) && !liars.contains(party);
        }

        int delay(int round, int from, int to) {
            for (int[] o : omits) {
                if (o[0] == round && o[1] == from && o[2] == to) {
                    return 1000;
                }
            }
            for (int[] l : lates) {
                if (l[0] == round && l[1] == from && l[2] == to) {
                    return l[3];
                }
            }
            return 0;
        }

        TreeSet<Integer> sound() {
            TreeSet<Integer> sound = new TreeSet<>();
            for (int p = 0; p < parties; p++) {
                if (honest(p)) {
                    sound.add(p);
                }
            }
            for (int[] f : omits) {
                sound.remove(f[1]);
                sound.remove(f[2]);
            }
            for (int[] f : lates) {
                sound.remove(f[1]);
                sound.remove(f[2]);
            }
            return sound;
        }
    }

    static Letter letter(int round, int from, int to, int value, List<Integer> marks) {
        Letter l = new Letter();
        l.round = round;
        l.from = from;
        l.to = to;
        l.value = value;
        l.marks.addAll(marks);
        return l;
    }

    /** What happened: letters in their order, and of each party what it extracted, from which letter. */
    static final class Story {
        final Play play;
        final int rounds;
        final List<Letter> letters = new ArrayList<>();
        final List<TreeMap<Integer, Integer>> when = new ArrayList<>();
        final List<TreeMap<Integer, Letter>> source = new ArrayList<>();
        final TreeSet<Integer> forged = new TreeSet<>();

        Story(Play play) {
            this.play = play;
            this.rounds = play.settings[2];
            for (int p = 0; p < play.parties; p++) {
                when.add(new TreeMap<>());
                source.add(new TreeMap<>());
            }
            int sender = play.settings[0];
            if (play.honest(sender)) {
                when.get(sender).put(play.settings[1], 0);
            }
            for (int r = 1; r <= rounds; r++) {
                honestOnes(r);
                plannedOnes(r);
                for (Letter l : letters) {
                    if (l.comes == r) {
                        read(l, r);
                    }
                }
            }
        }

        void honestOnes(int r) {
            for (int p = 0; p < play.parties; p++) {
                if (!play.honest(p)) {
                    continue;
                }
                for (int v = 0; v < 4; v++) {
                    Integer round = when.get(p).get(v);
                    if (round == null || round != r - 1) {
                        continue;
                    }
                    List<Integer> marks = new ArrayList<>();
                    if (r > 1) {
                        if (!relays(p, v)) {
                            continue;
                        }
                        marks.addAll(source.get(p).get(v).marks);
                    }
                    marks.add(p);
                    for (int to = 0; to < play.parties; to++) {
                        if (to != p) {
                            send(letter(r, p, to, v, marks));
                        }
                    }
                }
            }
        }

        boolean relays(int p, int v) {
            if (when.get(p).get(v) == 0) {
                return false;
            }
            List<Integer> order = new ArrayList<>(when.get(p).keySet());
            order.sort((a, b) -> {
                int first = Integer.compare(when.get(p).get(a), when.get(p).get(b));
                return first != 0 ? first : Integer.compare(a, b);
            });
            return order.indexOf(v) < play.settings[4];
        }

        void plannedOnes(int r) {
            for (int i = 0; i < play.plans.size(); i++) {
                Letter plan = play.plans.get(i);
                if (plan.round != r || !play.liars.contains(plan.from)) {
                    continue;
                }
                boolean all = true;
                for (int m : plan.marks) {
                    int first = usable(m, plan.value);
                    all &= first != -2 && first <= r;
                }
                if (all) {
                    send(letter(r, plan.from, plan.to, plan.value, plan.marks));
                } else {
                    forged.add(i);
                }
            }
        }

        int usable(int mark, int value) {
            if (play.liars.contains(mark)) {
                return 0;
            }
            int first = Integer.MAX_VALUE;
            for (Letter l : letters) {
                boolean bears = l.comes != NONE && play.liars.contains(l.to)
                        && l.value == value && l.marks.contains(mark);
                if (bears) {
                    first = Math.min(first, l.comes + 1);
                }
            }
            return first == Integer.MAX_VALUE ? -2 : first;
        }

        void send(Letter l) {
            int comes = l.round + play.delay(l.round, l.from, l.to);
            l.comes = comes <= rounds ? comes : NONE;
            letters.add(l);
        }

        void read(Letter l, int r) {
            boolean counts = play.honest(l.to) && l.marks.get(0) == play.settings[0] && l.marks.size() >= r;
            if (!counts) {
                return;
            }
            l.use = 1;
            if (!when.get(l.to).containsKey(l.value)) {
                l.use = 2;
                when.get(l.to).put(l.value, r);
                source.get(l.to).put(l.value, l);
            }
        }

        TreeSet<Integer> set(int p, int round) {
            TreeSet<Integer> set = new TreeSet<>();
            when.get(p).forEach((v, r) -> {
                if (r <= round) {
                    set.add(v);
                }
            });
            return set;
        }

        int decision(int p) {
            TreeSet<Integer> set = set(p, rounds);
            return set.size() == 1 ? set.first() : play.settings[3];
        }

        boolean alike(Iterable<Integer> some) {
            TreeSet<Integer> all = new TreeSet<>();
            some.forEach(p -> all.add(decision(p)));
            return all.size() <= 1;
        }

        List<Integer> honestDecisions() {
            List<Integer> all = new ArrayList<>();
            for (int p = 0; p < play.parties; p++) {
                all.add(play.honest(p) ? decision(p) : NONE);
            }
            return all;
        }
    }

    private Play play = new Play();
    private String tape = "";
    private final List<Play> past = new ArrayList<>();
    private final Play[] shelves = new Play[2];
    private Story kept = null;

    private Story story() {
        if (kept == null) {
            kept = new Story(play);
        }
        return kept;
    }

    private void act() {
        past.add(play.copy());
        if (past.size() > 10) {
            past.remove(0);
        }
        kept = null;
    }

    int feed(int a, int b, int c, int d, int e) {
        if (tape.length() > 380) {
            return NONE;
        }
        StringBuilder more = new StringBuilder(tape);
        for (int number : new int[] {a, b, c, d, e}) {
            for (int i = 3; i >= 0; i--) {
                more.append((char) (number >>> (8 * i) & 0xff));
            }
        }
        tape = more.toString();
        return tape.length();
    }

    int end(int n) {
        if (n < 0 || n > tape.length()) {
            return NONE;
        }
        tape = tape.substring(0, n);
        return n;
    }

    int tell() {
        String text = tape;
        tape = "";
        try {
            play = new ModelText(text).read();
        } catch (ModelText.Fault fault) {
            return -2 - fault.code;
        }
        past.clear();
        kept = null;
        return play.parties;
    }

    private boolean fits(int what, int value) {
        switch (what) {
            case 0:
                return play.has(value);
            case 1:
            case 3:
                return value >= 0 && value <= 3;
            case 2:
                return value >= 1 && value <= 8;
            case 4:
                return value >= 1 && value <= 4;
            default:
                return false;
        }
    }

    int settle(int what, int value) {
        if (play.parties == 0 || !fits(what, value)) {
            return NONE;
        }
        int was = play.settings[what];
        if (was == value) {
            return -2;
        }
        act();
        play.settings[what] = value;
        return was;
    }

    int lies(int party) {
        if (!play.has(party)) {
            return NONE;
        }
        act();
        if (!play.liars.remove(party)) {
            play.liars.add(party);
            return 1;
        }
        return 0;
    }

    private boolean way(int round, int from, int to) {
        return round >= 1 && round <= 8 && play.has(from) && play.has(to) && from != to;
    }

    int plan(int round, int from, int to, int value, int marks) {
        if (!way(round, from, to) || value < 0 || value > 3 || marks < 1) {
            return NONE;
        }
        List<Integer> row = new ArrayList<>();
        for (char c : Integer.toString(marks).toCharArray()) {
            int party = c - '1';
            if (!play.has(party) || row.contains(party)) {
                return NONE;
            }
            row.add(party);
        }
        if (play.plans.size() == 16) {
            return -3;
        }
        act();
        play.plans.add(letter(round, from, to, value, row));
        return play.plans.size() - 1;
    }

    int drop(int kind, int k) {
        List<?> all = kind == 0 ? play.plans : kind == 1 ? play.omits : kind == 2 ? play.lates : List.of();
        if (k < 0 || k >= all.size()) {
            return NONE;
        }
        act();
        all.remove(k);
        return all.size();
    }

    private static boolean isTold(List<int[]> all, int round, int from, int to) {
        return all.stream().anyMatch(f -> f[0] == round && f[1] == from && f[2] == to);
    }

    int omit(int round, int from, int to) {
        if (!way(round, from, to)) {
            return NONE;
        }
        if (isTold(play.omits, round, from, to)) {
            return -2;
        }
        if (play.omits.size() == 12) {
            return -3;
        }
        act();
        play.omits.add(new int[] {round, from, to});
        return play.omits.size() - 1;
    }

    int late(int round, int from, int to, int by) {
        if (!way(round, from, to) || by < 1 || by > 7) {
            return NONE;
        }
        if (isTold(play.lates, round, from, to)) {
            return -2;
        }
        if (play.lates.size() == 12) {
            return -3;
        }
        act();
        play.lates.add(new int[] {round, from, to, by});
        return play.lates.size() - 1;
    }

    int attack() {
        if (play.parties == 0) {
            return NONE;
        }
        int rounds = play.settings[2];
        int sender = play.settings[0];
        List<Integer> honest = new ArrayList<>();
        for (int p = 0; p < play.parties; p++) {
            if (play.honest(p)) {
                honest.add(p);
            }
        }
        if (!play.liars.contains(sender) || play.liars.size() < rounds || honest.size() < 2) {
            return -2;
        }
        act();
        List<Integer> marks = new ArrayList<>(play.liars);
        marks.remove(Integer.valueOf(sender));
        marks.add(0, sender);
        marks = marks.subList(0, rounds);
        play.plans.clear();
        play.plans.add(letter(rounds, marks.get(rounds - 1), honest.get(0), (play.settings[3] + 1) % 4, marks));
        return rounds;
    }

    int trade(int party, int other) {
        if (!play.has(party) || !play.has(other) || party == other) {
            return NONE;
        }
        act();
        int[] name = {0, 1, 2, 3, 4, 5, 6, 7};
        name[party] = other;
        name[other] = party;
        play.settings[0] = name[play.settings[0]];
        TreeSet<Integer> liars = new TreeSet<>();
        play.liars.forEach(l -> liars.add(name[l]));
        play.liars = liars;
        for (Letter l : play.plans) {
            l.from = name[l.from];
            l.to = name[l.to];
            l.marks.replaceAll(m -> name[m]);
        }
        for (List<int[]> all : List.of(play.omits, play.lates)) {
            for (int[] f : all) {
                f[1] = name[f[1]];
                f[2] = name[f[2]];
            }
        }
        return play.parties;
    }

    int undo() {
        if (past.isEmpty()) {
            return NONE;
        }
        play = past.remove(past.size() - 1);
        kept = null;
        return past.size();
    }

    int keep(int shelf) {
        if (shelf != 0 && shelf != 1) {
            return NONE;
        }
        shelves[shelf] = play.copy();
        return play.plans.size();
    }

    int back(int shelf) {
        if (shelf != 0 && shelf != 1) {
            return NONE;
        }
        if (shelves[shelf] == null) {
            return -2;
        }
        play = shelves[shelf].copy();
        past.clear();
        kept = null;
        return play.plans.size();
    }

    private static int bits(Iterable<Integer> some) {
        int bits = 0;
        for (int s : some) {
            bits |= 1 << s;
        }
        return bits;
    }

    int set(int party, int round) {
        if (!play.honest(party) || round < 0 || round > play.settings[2]) {
            return NONE;
        }
        return bits(story().set(party, round));
    }

    int decision(int party) {
        return play.honest(party) ? story().decision(party) : NONE;
    }

    private static boolean isValue(int value) {
        return value >= 0 && value <= 3;
    }

    int extracted(int party, int value, int what) {
        if (!play.honest(party) || !isValue(value) || what < 0 || what > 3) {
            return NONE;
        }
        Integer round = story().when.get(party).get(value);
        if (round == null) {
            return -2;
        }
        if (round == 0) {
            return new int[] {0, NONE, 0, 0}[what];
        }
        Letter from = story().source.get(party).get(value);
        return new int[] {round, from.from, from.marks.size(), story().relays(party, value) ? 1 : 0}[what];
    }

    int letter(int k, int what) {
        if (play.parties == 0) {
            return NONE;
        }
        List<Letter> all = story().letters;
        if (k == NONE && what == 0) {
            return all.size();
        }
        if (k < 0 || k >= all.size() || what < 0 || what > 6) {
            return NONE;
        }
        Letter l = all.get(k);
        return new int[] {l.round, l.from, l.to, l.value, l.marks.size(), l.comes, l.use}[what];
    }

    int mark(int k, int i) {
        List<Letter> all = story().letters;
        if (k < 0 || k >= all.size() || i < 0 || i >= all.get(k).marks.size()) {
            return NONE;
        }
        return all.get(k).marks.get(i);
    }

    long packed(int k) {
        List<Letter> all = story().letters;
        if (k < 0 || k >= all.size()) {
            return NONE;
        }
        long sum = all.get(k).value;
        long weight = 4;
        for (int m : all.get(k).marks) {
            sum += weight * (m + 1);
            weight *= 9;
        }
        return sum;
    }

    int open(long packed, int what) {
        if (packed < 0 || what < 0 || (what > 1 && what < 10) || what > 17) {
            return NONE;
        }
        String digits = new StringBuilder(Long.toString(packed / 4, 9)).reverse().toString();
        if (packed < 4 || digits.length() > 8 || digits.indexOf('0') >= 0
                || digits.chars().distinct().count() != digits.length()) {
            return NONE;
        }
        if (what < 2) {
            return what == 0 ? (int) (packed % 4) : digits.length();
        }
        return what - 10 < digits.length() ? digits.charAt(what - 10) - '1' : -2;
    }

    int sent(int round) {
        if (play.parties == 0 || round < -1 || round == 0 || round > 8) {
            return NONE;
        }
        return (int) story().letters.stream().filter(l -> round == NONE || l.round == round).count();
    }

    int forged(int what) {
        if (what == 0) {
            return bits(story().forged);
        }
        if (what != 1) {
            return NONE;
        }
        TreeSet<Integer> idle = new TreeSet<>();
        for (int i = 0; i < play.plans.size(); i++) {
            Letter l = play.plans.get(i);
            if (l.round > play.settings[2] || !play.liars.contains(l.from)) {
                idle.add(i);
            }
        }
        return bits(idle);
    }

    int known(int party, int value) {
        return play.has(party) && isValue(value) ? story().usable(party, value) : NONE;
    }

    int alike() {
        return story().alike(play.sound()) ? 1 : 0;
    }

    int valid() {
        if (!play.sound().contains(play.settings[0])) {
            return 1;
        }
        return play.sound().stream().allMatch(p -> story().decision(p) == play.settings[1]) ? 1 : 0;
    }

    int sound() {
        return bits(play.sound());
    }

    private static List<Integer> bySizeThenNumber(int count) {
        List<Integer> masks = new ArrayList<>();
        for (int m = 0; m < 1 << count; m++) {
            masks.add(m);
        }
        masks.sort((a, b) -> Integer.bitCount(a) != Integer.bitCount(b)
                ? Integer.bitCount(a) - Integer.bitCount(b) : a - b);
        return masks;
    }

    int parted() {
        if (play.parties == 0) {
            return NONE;
        }
        int first = Math.min(6, play.plans.size());
        for (int mask : bySizeThenNumber(first)) {
            Play other = play.copy();
            for (int i = first - 1; i >= 0; i--) {
                if ((mask & 1 << i) == 0) {
                    other.plans.remove(i);
                }
            }
            if (!new Story(other).alike(other.sound())) {
                return mask;
            }
        }
        return -2;
    }

    int slack(int round, int from, int to) {
        if (!way(round, from, to)) {
            return NONE;
        }
        int most = -1;
        for (int by = 0; by <= 7; by++) {
            Play other = play.copy();
            other.omits.removeIf(f -> f[0] == round && f[1] == from && f[2] == to);
            other.lates.removeIf(f -> f[0] == round && f[1] == from && f[2] == to);
            other.lates.add(new int[] {round, from, to, by});
            if (!new Story(other).honestDecisions().equals(story().honestDecisions())) {
                break;
            }
            most = by;
        }
        return most < 0 ? -2 : most;
    }

    int crucial(int round, int k) {
        if (play.parties == 0 || round < 1 || round > play.settings[2] || k < NONE) {
            return NONE;
        }
        List<Integer> found = new ArrayList<>();
        for (int from = 0; from < play.parties; from++) {
            for (int to = 0; to < play.parties; to++) {
                if (from == to || isTold(play.omits, round, from, to)) {
                    continue;
                }
                Play other = play.copy();
                other.omits.add(new int[] {round, from, to});
                if (!new Story(other).honestDecisions().equals(story().honestDecisions())) {
                    found.add(8 * from + to);
                }
            }
        }
        return k == NONE ? found.size() : k < found.size() ? found.get(k) : -2;
    }

    int least() {
        if (play.parties == 0) {
            return NONE;
        }
        boolean[] good = new boolean[9];
        for (int r = 1; r <= 8; r++) {
            Play other = play.copy();
            other.settings[2] = r;
            good[r] = new Story(other).alike(other.sound());
        }
        for (int r = 1; r <= 8; r++) {
            boolean all = true;
            for (int s = r; s <= 8; s++) {
                all &= good[s];
            }
            if (all) {
                return r;
            }
        }
        return -2;
    }

    int holders(int value, int round) {
        if (play.parties == 0 || !isValue(value) || round < 0 || round > play.settings[2]) {
            return NONE;
        }
        TreeSet<Integer> all = new TreeSet<>();
        for (int p = 0; p < play.parties; p++) {
            if (play.honest(p) && story().set(p, round).contains(value)) {
                all.add(p);
            }
        }
        return bits(all);
    }

    int path(int party, int value, int i) {
        if (!play.honest(party) || !isValue(value) || i < NONE) {
            return NONE;
        }
        Integer round = story().when.get(party).get(value);
        if (round == null) {
            return -2;
        }
        List<Integer> marks = round == 0 ? List.of() : story().source.get(party).get(value).marks;
        return i == NONE ? marks.size() : i < marks.size() ? marks.get(i) : -2;
    }

    int caught(int party) {
        if (!play.honest(party)) {
            return NONE;
        }
        int sender = play.settings[0];
        for (int r = 1; r <= play.settings[2]; r++) {
            TreeSet<Integer> values = new TreeSet<>();
            if (party == sender) {
                values.add(play.settings[1]);
            }
            for (Letter l : story().letters) {
                if (l.comes != NONE && l.comes <= r && l.to == party && l.marks.contains(sender)) {
                    values.add(l.value);
                }
            }
            if (values.size() >= 2) {
                return r;
            }
        }
        return -2;
    }

    int bits(int round) {
        if (play.parties == 0 || round < -1 || round == 0 || round > 8) {
            return NONE;
        }
        int sum = 0;
        int most = 0;
        for (Letter l : story().letters) {
            int size = 5 + 3 * l.marks.size();
            sum += l.round == round ? size : 0;
            most = Math.max(most, size);
        }
        return round == NONE ? most : sum;
    }

    int load(int from, int to) {
        if (play.parties == 0) {
            return NONE;
        }
        TreeMap<Integer, Integer> loads = new TreeMap<>();
        story().letters.forEach(l -> loads.merge(8 * l.from + l.to, 1, Integer::sum));
        if (from == NONE) {
            return loads.values().stream().max(Integer::compare).orElse(0);
        }
        if (!play.has(from) || !play.has(to) || from == to) {
            return NONE;
        }
        return loads.getOrDefault(8 * from + to, 0);
    }

    int calm(int what) {
        if (play.parties == 0 || what < 0 || what > 1) {
            return NONE;
        }
        int rounds = play.settings[2];
        for (int r = 0; r <= rounds; r++) {
            boolean all = true;
            for (int s = r; s <= rounds; s++) {
                all &= what == 0 ? setsAt(s).equals(setsAt(rounds)) : soundSetsAt(s).size() <= 1;
            }
            if (all) {
                return r;
            }
        }
        return -2;
    }

    private List<TreeSet<Integer>> setsAt(int round) {
        List<TreeSet<Integer>> all = new ArrayList<>();
        for (int p = 0; p < play.parties; p++) {
            all.add(story().set(p, round));
        }
        return all;
    }

    private TreeSet<Integer> soundSetsAt(int round) {
        TreeSet<Integer> all = new TreeSet<>();
        play.sound().forEach(p -> all.add(bits(story().set(p, round))));
        return all;
    }

    int heal() {
        if (play.parties == 0) {
            return NONE;
        }
        int omits = play.omits.size();
        for (int mask : bySizeThenNumber(Math.min(6, omits + play.lates.size()))) {
            Play other = play.copy();
            other.omits.clear();
            other.lates.clear();
            for (int i = 0; i < omits + play.lates.size(); i++) {
                if ((mask & 1 << i) == 0) {
                    (i < omits ? other.omits : other.lates)
                            .add(i < omits ? play.omits.get(i) : play.lates.get(i - omits));
                }
            }
            TreeSet<Integer> decided = new TreeSet<>(new Story(other).honestDecisions());
            decided.remove(NONE);
            if (decided.size() <= 1) {
                return mask;
            }
        }
        return -2;
    }

    int count(int what) {
        if (what < 0 || what > 13) {
            return NONE;
        }
        int[] s = play.settings;
        int shortOnes = 0;
        for (Letter l : story().letters) {
            if (play.honest(l.to) && l.comes > l.marks.size()) {
                shortOnes++;
            }
        }
        int onShelves = (shelves[0] == null ? 0 : 1) + (shelves[1] == null ? 0 : 2);
        return new int[] {play.parties, s[0], s[1], s[2], s[3], s[4], bits(play.liars), play.plans.size(),
            play.omits.size(), play.lates.size(), past.size(), tape.length(), onShelves, shortOnes}[what];
    }

    int planned(int k, int what) {
        if (k < 0 || k >= play.plans.size() || what < 0 || what > 4) {
            return NONE;
        }
        Letter l = play.plans.get(k);
        StringBuilder digits = new StringBuilder();
        l.marks.forEach(m -> digits.append(m + 1));
        return new int[] {l.round, l.from, l.to, l.value, Integer.parseInt(digits.toString())}[what];
    }

    int fault(int kind, int k, int what) {
        List<int[]> all = kind == 1 ? play.omits : kind == 2 ? play.lates : List.of();
        if (k < 0 || k >= all.size() || what < 0 || what > 3) {
            return NONE;
        }
        int[] f = Arrays.copyOf(all.get(k), 4);
        return f[what];
    }
}
