import java.util.Arrays;

/**
 * Marked letters that are relayed, ROUND by ROUND, among honest PARTIES and LIARS.
 * The document ../shared/DOC.md says what each call answers; its words are used here.
 */
public final class MarkedChains {
    public static final int NONE = -1;

    private static final int NOT_SO = -2;
    private static final int FULL = -3;

    private static final int LEAST_PARTIES = 3;
    private static final int MOST_PARTIES = 8;
    private static final int VALUES = 4;
    private static final int MOST_ROUNDS = 8;
    private static final int MOST_LATE = 7;
    private static final int MOST_PLANS = 16;
    private static final int MOST_FAULTS = 12;
    private static final int TRIED = 6;

    private static final int SENDER = 0;
    private static final int VALUE = 1;
    private static final int ROUNDS = 2;
    private static final int DEFAULT = 3;
    private static final int CUT = 4;
    private static final int SETTINGS = 5;

    private static final int PAST = 10;
    private static final int SHELVES = 2;
    private static final int MOST_BYTES = 400;

    /** Above every ROUND, so that a first ROUND that never was sorts behind all others. */
    private static final int NEVER = 99;

    private final Play play = new Play();
    private final Tape tape = new Tape();
    private final Run now = new Run(play);
    private final Run trial = new Run(play);
    private final Play[] past = new Play[PAST];
    private final Play[] shelves = new Play[SHELVES];
    private int pastCount = 0;
    private int shelvesKept = 0;

    public MarkedChains() {
        for (int i = 0; i < PAST; i++) {
            past[i] = new Play();
        }
        for (int i = 0; i < SHELVES; i++) {
            shelves[i] = new Play();
        }
        replay();
    }

    // ---- the TAPE and what it tells

    public int feed(int a, int b, int c, int d, int e) {
        if (tape.length + 20 > MOST_BYTES) {
            return NONE;
        }
        tape.append(a);
        tape.append(b);
        tape.append(c);
        tape.append(d);
        tape.append(e);
        return tape.length;
    }

    public int end(int n) {
        if (n < 0 || n > tape.length) {
            return NONE;
        }
        tape.length = n;
        return n;
    }

    public int tell() {
        tape.read();
        tape.length = 0;
        if (tape.wrong != 0) {
            return -2 - tape.wrong;
        }
        play.become(tape.told);
        pastCount = 0;
        replay();
        return play.parties;
    }

    // ---- ACTS

    public int settle(int what, int value) {
        if (!play.hasSetting(what, value)) {
            return NONE;
        }
        int was = play.settings[what];
        if (was == value) {
            return NOT_SO;
        }
        remember();
        play.settings[what] = value;
        replay();
        return was;
    }

    public int lies(int party) {
        if (!play.hasParty(party)) {
            return NONE;
        }
        remember();
        play.liars ^= 1 << party;
        replay();
        return play.liars >> party & 1;
    }

    public int plan(int round, int from, int to, int value, int marks) {
        int chain = Chain.ofDigits(marks);
        if (!play.hasRoute(round, from, to) || !isValue(value) || !play.hasMarks(chain)) {
            return NONE;
        }
        if (play.planCount >= MOST_PLANS) {
            return FULL;
        }
        remember();
        play.addPlan(Route.of(round, from, to), value, chain);
        replay();
        return play.planCount - 1;
    }

    public int drop(int kind, int k) {
        if (k < 0 || k >= play.sizeOf(kind)) {
            return NONE;
        }
        remember();
        play.remove(kind, k);
        replay();
        return play.sizeOf(kind);
    }

    public int omit(int round, int from, int to) {
        if (!play.hasRoute(round, from, to)) {
            return NONE;
        }
        int route = Route.of(round, from, to);
        if (play.isOmitted(route)) {
            return NOT_SO;
        }
        if (play.omitCount >= MOST_FAULTS) {
            return FULL;
        }
        remember();
        play.addOmit(route);
        replay();
        return play.omitCount - 1;
    }

    public int late(int round, int from, int to, int by) {
        if (!play.hasRoute(round, from, to) || by < 1 || by > MOST_LATE) {
            return NONE;
        }
        int route = Route.of(round, from, to);
        if (play.isLate(route)) {
            return NOT_SO;
        }
        if (play.lateCount >= MOST_FAULTS) {
            return FULL;
        }
        remember();
        play.addLate(route, by);
        replay();
        return play.lateCount - 1;
    }

    public int attack() {
        if (play.parties == 0) {
            return NONE;
        }
        int rounds = play.settings[ROUNDS];
        boolean enough = Integer.bitCount(play.liars) >= rounds
                && Integer.bitCount(play.honest()) >= 2;
        if (!enough || !play.isLiar(play.settings[SENDER])) {
            return NOT_SO;
        }
        remember();
        int chain = play.liarsChain(rounds);
        int from = Chain.markAt(chain, rounds - 1);
        int route = Route.of(rounds, from, leastOf(play.honest()));
        play.planCount = 0;
        play.addPlan(route, (play.settings[DEFAULT] + 1) % VALUES, chain);
        replay();
        return Chain.size(chain);
    }

    public int trade(int party, int other) {
        if (!play.hasParty(party) || !play.hasParty(other) || party == other) {
            return NONE;
        }
        remember();
        play.swap(party, other);
        replay();
        return play.parties;
    }

    // ---- UNDONE and KEPT

    public int undo() {
        if (pastCount <= 0) {
            return NONE;
        }
        pastCount--;
        play.become(past[pastCount]);
        replay();
        return pastCount;
    }

    public int keep(int shelf) {
        if (shelf < 0 || shelf >= SHELVES) {
            return NONE;
        }
        shelves[shelf].become(play);
        shelvesKept |= 1 << shelf;
        return play.planCount;
    }

    public int back(int shelf) {
        if (shelf < 0 || shelf >= SHELVES) {
            return NONE;
        }
        if ((shelvesKept >> shelf & 1) == 0) {
            return NOT_SO;
        }
        play.become(shelves[shelf]);
        pastCount = 0;
        replay();
        return play.planCount;
    }

    // ---- what honest PARTIES hold and decide

    public int set(int party, int round) {
        if (!play.isHonest(party) || !hasRoundBehind(round)) {
            return NONE;
        }
        return now.setOf(party, round);
    }

    public int decision(int party) {
        if (!play.isHonest(party)) {
            return NONE;
        }
        return now.decisionOf(party);
    }

    public int extracted(int party, int value, int what) {
        if (!play.isHonest(party) || !isValue(value) || what < 0 || what > 3) {
            return NONE;
        }
        int cell = cellOf(party, value);
        int round = now.gotRound[cell];
        if (round == NEVER) {
            return NOT_SO;
        }
        switch (what) {
            case 0:
                return round;
            case 1:
                return now.gotFrom[cell];
            case 2:
                return Chain.size(now.gotChain[cell]);
            default:
                return now.relays(party, value) ? 1 : 0;
        }
    }

    public int holders(int value, int round) {
        if (play.parties == 0 || !isValue(value) || !hasRoundBehind(round)) {
            return NONE;
        }
        int holders = 0;
        for (int party = 0; party < play.parties; party++) {
            if ((now.setOf(party, round) >> value & 1) != 0) {
                holders |= 1 << party;
            }
        }
        return holders;
    }

    public int path(int party, int value, int i) {
        if (!play.isHonest(party) || !isValue(value) || i < NONE) {
            return NONE;
        }
        int cell = cellOf(party, value);
        if (now.gotRound[cell] == NEVER) {
            return NOT_SO;
        }
        int chain = now.gotChain[cell];
        if (i == NONE) {
            return Chain.size(chain);
        }
        return i < Chain.size(chain) ? Chain.markAt(chain, i) : NOT_SO;
    }

    public int caught(int party) {
        if (!play.isHonest(party)) {
            return NONE;
        }
        return now.firstTwoFaced(party);
    }

    // ---- LETTERS

    public int letter(int k, int what) {
        if (play.parties == 0) {
            return NONE;
        }
        if (k == NONE && what == 0) {
            return now.letters;
        }
        if (!hasLetter(k)) {
            return NONE;
        }
        switch (what) {
            case 0:
                return Route.roundOf(now.route[k]);
            case 1:
                return Route.fromOf(now.route[k]);
            case 2:
                return Route.toOf(now.route[k]);
            case 3:
                return now.value[k];
            case 4:
                return Chain.size(now.chain[k]);
            case 5:
                return now.comes[k];
            case 6:
                return now.use[k];
            default:
                return NONE;
        }
    }

    public int mark(int k, int i) {
        if (!hasLetter(k) || i < 0 || i >= Chain.size(now.chain[k])) {
            return NONE;
        }
        return Chain.markAt(now.chain[k], i);
    }

    public long packed(int k) {
        if (!hasLetter(k)) {
            return NONE;
        }
        return Chain.pack(now.chain[k], now.value[k]);
    }

    public int open(long packed, int what) {
        int chain = Chain.unpack(packed);
        boolean asksMark = what >= 10 && what < 10 + MOST_PARTIES;
        if (chain == NONE || (what != 0 && what != 1 && !asksMark)) {
            return NONE;
        }
        if (what == 0) {
            return (int) (packed % VALUES);
        }
        if (what == 1) {
            return Chain.size(chain);
        }
        return what - 10 < Chain.size(chain) ? Chain.markAt(chain, what - 10) : NOT_SO;
    }

    public int sent(int round) {
        if (play.parties == 0 || !isRoundOrNone(round)) {
            return NONE;
        }
        return round == NONE ? now.letters : now.lettersOf(round);
    }

    public int forged(int what) {
        if (what == 0) {
            return now.forgedPlans;
        }
        return what == 1 ? play.idlePlans() : NONE;
    }

    public int known(int party, int value) {
        if (!play.hasParty(party) || !isValue(value)) {
            return NONE;
        }
        int first = now.usable[cellOf(party, value)];
        return first == NEVER ? NOT_SO : first;
    }

    public int bits(int round) {
        if (play.parties == 0 || !isRoundOrNone(round)) {
            return NONE;
        }
        return round == NONE ? now.greatestBits() : now.bitsOf(round);
    }

    public int load(int from, int to) {
        if (play.parties == 0) {
            return NONE;
        }
        if (from == NONE) {
            return now.greatestLoad();
        }
        if (!play.hasParty(from) || !play.hasParty(to) || from == to) {
            return NONE;
        }
        return now.loadOf(from, to);
    }

    // ---- all together

    public int alike() {
        return now.haveOneDecision(play.soundParties()) ? 1 : 0;
    }

    public int valid() {
        int sound = play.soundParties();
        if ((sound >> play.settings[SENDER] & 1) == 0) {
            return 1;
        }
        for (int party = 0; party < play.parties; party++) {
            boolean isSound = (sound >> party & 1) != 0;
            if (isSound && now.decisionOf(party) != play.settings[VALUE]) {
                return 0;
            }
        }
        return 1;
    }

    public int sound() {
        return play.soundParties();
    }

    public int calm(int what) {
        if (play.parties == 0 || what < 0 || what > 1) {
            return NONE;
        }
        return what == 0 ? now.firstStill() : now.firstUnited(play.soundParties());
    }

    // ---- what would be if

    public int parted() {
        if (play.parties == 0) {
            return NONE;
        }
        int sound = play.soundParties();
        int all = (1 << Math.min(play.planCount, TRIED)) - 1;
        for (int size = 0; size <= TRIED; size++) {
            for (int some = 0; some <= all; some++) {
                if (Integer.bitCount(some) == size && partsWith(some, all, sound)) {
                    return some;
                }
            }
        }
        return NOT_SO;
    }

    private boolean partsWith(int some, int all, int sound) {
        trial.prepare(0);
        trial.plansAllowed = ~all | some;
        trial.play();
        return !trial.haveOneDecision(sound);
    }

    public int slack(int round, int from, int to) {
        if (!play.hasRoute(round, from, to)) {
            return NONE;
        }
        int route = Route.of(round, from, to);
        for (int by = 0; by <= MOST_LATE; by++) {
            if (changesDecisions(route, by)) {
                return by == 0 ? NOT_SO : by - 1;
            }
        }
        return MOST_LATE;
    }

    public int crucial(int round, int k) {
        if (play.parties == 0 || round < 1 || round > play.settings[ROUNDS] || k < NONE) {
            return NONE;
        }
        int found = 0;
        for (int pair = 0; pair < MOST_PARTIES * MOST_PARTIES; pair++) {
            if (isCrucial(round, pair / MOST_PARTIES, pair % MOST_PARTIES)) {
                if (found == k) {
                    return pair;
                }
                found++;
            }
        }
        return k == NONE ? found : NOT_SO;
    }

    private boolean isCrucial(int round, int from, int to) {
        if (!play.hasRoute(round, from, to)) {
            return false;
        }
        int route = Route.of(round, from, to);
        // Where no LETTER comes, an OMIT takes nothing away: most pairs need no trial.
        return !play.isOmitted(route) && now.anyComes(route) && changesDecisions(route, NEVER);
    }

    private boolean changesDecisions(int route, int by) {
        trial.prepare(0);
        trial.delay[route] = by;
        trial.play();
        for (int party = 0; party < play.parties; party++) {
            if (play.isHonest(party) && trial.decisionOf(party) != now.decisionOf(party)) {
                return true;
            }
        }
        return false;
    }

    public int least() {
        if (play.parties == 0) {
            return NONE;
        }
        int sound = play.soundParties();
        for (int rounds = MOST_ROUNDS; rounds >= 1; rounds--) {
            trial.prepare(0);
            trial.rounds = rounds;
            trial.play();
            if (!trial.haveOneDecision(sound)) {
                return rounds == MOST_ROUNDS ? NOT_SO : rounds + 1;
            }
        }
        return 1;
    }

    public int heal() {
        if (play.parties == 0) {
            return NONE;
        }
        int all = (1 << Math.min(play.omitCount + play.lateCount, TRIED)) - 1;
        for (int size = 0; size <= TRIED; size++) {
            for (int gone = 0; gone <= all; gone++) {
                if (Integer.bitCount(gone) == size && healsWithout(gone)) {
                    return gone;
                }
            }
        }
        return NOT_SO;
    }

    private boolean healsWithout(int gone) {
        trial.prepare(gone);
        trial.play();
        return trial.haveOneDecision(play.honest());
    }

    // ---- what there is

    public int count(int what) {
        if (what >= 1 && what <= SETTINGS) {
            return play.settings[what - 1];
        }
        switch (what) {
            case 0:
                return play.parties;
            case 6:
                return play.liars;
            case 7:
                return play.planCount;
            case 8:
                return play.omitCount;
            case 9:
                return play.lateCount;
            case 10:
                return pastCount;
            case 11:
                return tape.length;
            case 12:
                return shelvesKept;
            case 13:
                return now.shortLetters();
            default:
                return NONE;
        }
    }

    public int planned(int k, int what) {
        if (k < 0 || k >= play.planCount) {
            return NONE;
        }
        switch (what) {
            case 0:
                return Route.roundOf(play.planRoute[k]);
            case 1:
                return Route.fromOf(play.planRoute[k]);
            case 2:
                return Route.toOf(play.planRoute[k]);
            case 3:
                return play.planValue[k];
            case 4:
                return Chain.digits(play.planChain[k]);
            default:
                return NONE;
        }
    }

    public int fault(int kind, int k, int what) {
        if (kind < 1 || k < 0 || k >= play.sizeOf(kind)) {
            return NONE;
        }
        int route = kind == 1 ? play.omitRoute[k] : play.lateRoute[k];
        switch (what) {
            case 0:
                return Route.roundOf(route);
            case 1:
                return Route.fromOf(route);
            case 2:
                return Route.toOf(route);
            case 3:
                return kind == 1 ? 0 : play.lateBy[k];
            default:
                return NONE;
        }
    }

    // ---- helpers of the face

    private void remember() {
        if (pastCount >= PAST) {
            forgetOldest();
        }
        past[pastCount].become(play);
        pastCount++;
    }

    private void forgetOldest() {
        Play oldest = past[0];
        for (int i = 1; i < PAST; i++) {
            past[i - 1] = past[i];
        }
        past[PAST - 1] = oldest;
        pastCount = PAST - 1;
    }

    /** Called behind every change of the PLAY, so that what is asked only reads. */
    private void replay() {
        now.prepare(0);
        now.play();
    }

    private boolean hasLetter(int k) {
        return k >= 0 && k < now.letters;
    }

    private boolean hasRoundBehind(int round) {
        return round >= 0 && round <= play.settings[ROUNDS];
    }

    private static boolean isRoundOrNone(int round) {
        return round == NONE || (round >= 1 && round <= MOST_ROUNDS);
    }

    private static boolean isValue(int value) {
        return value >= 0 && value < VALUES;
    }

    private static int cellOf(int party, int value) {
        return party * VALUES + value;
    }

    private static int leastOf(int parties) {
        for (int party = 0; party < MOST_PARTIES; party++) {
            if ((parties >> party & 1) != 0) {
                return party;
            }
        }
        return 0;
    }

    private static int swapped(int party, int a, int b) {
        if (party == a) {
            return b;
        }
        return party == b ? a : party;
    }

    /** ROUND, FROM and TO in one number: the place of what is sent there in a table of all. */
    private static final class Route {
        static final int ALL = 64 * (MOST_ROUNDS + 1);

        static int of(int round, int from, int to) {
            return 64 * round + 8 * from + to;
        }

        static int roundOf(int route) {
            return route >> 6;
        }

        static int fromOf(int route) {
            return route >> 3 & 7;
        }

        static int toOf(int route) {
            return route & 7;
        }

        static int traded(int route, int a, int b) {
            return of(roundOf(route), swapped(fromOf(route), a, b), swapped(toOf(route), a, b));
        }
    }

    /** A row of MARKS in one number: four bits for how many, then three for each. */
    private static final class Chain {
        static final int EMPTY = 0;
        static final int TOP_DIGIT = 10000000;

        static int size(int chain) {
            return chain & 15;
        }

        static int markAt(int chain, int i) {
            return (chain >> (4 + 3 * i)) & 7;
        }

        static int with(int chain, int party) {
            int size = size(chain);
            return size < MOST_PARTIES ? (chain | party << (4 + 3 * size)) + 1 : chain;
        }

        static int bearers(int chain) {
            int bearers = 0;
            for (int i = 0; i < size(chain); i++) {
                bearers |= 1 << markAt(chain, i);
            }
            return bearers;
        }

        static boolean bears(int chain, int party) {
            return (bearers(chain) >> party & 1) != 0;
        }

        static int traded(int chain, int a, int b) {
            int traded = EMPTY;
            for (int i = 0; i < size(chain); i++) {
                traded = with(traded, swapped(markAt(chain, i), a, b));
            }
            return traded;
        }

        static int digits(int chain) {
            int digits = 0;
            for (int i = 0; i < size(chain); i++) {
                digits = digits * 10 + markAt(chain, i) + 1;
            }
            return digits;
        }

        /** NONE if the digits are no row of unlike MARKS. */
        static int ofDigits(int digits) {
            if (digits <= 0 || digits / 10 >= TOP_DIGIT) {
                return NONE;
            }
            int chain = EMPTY;
            for (int unit = TOP_DIGIT; unit >= 1; unit /= 10) {
                int digit = digits / unit % 10;
                boolean ahead = digit == 0 && chain == EMPTY;
                if (!ahead) {
                    if (digit < 1 || digit > MOST_PARTIES || bears(chain, digit - 1)) {
                        return NONE;
                    }
                    chain = with(chain, digit - 1);
                }
            }
            return chain;
        }

        static long pack(int chain, int value) {
            long row = 0;
            for (int i = size(chain) - 1; i >= 0; i--) {
                row = row * 9 + markAt(chain, i) + 1;
            }
            return row * VALUES + value;
        }

        /** The MARKS of a packed LETTER; NONE if it is none. */
        static int unpack(long packed) {
            if (packed < 0) {
                return NONE;
            }
            int chain = EMPTY;
            long row = packed / VALUES;
            for (int i = 0; i < MOST_PARTIES && row > 0; i++) {
                int digit = (int) (row % 9);
                if (digit == 0 || bears(chain, digit - 1)) {
                    return NONE;
                }
                chain = with(chain, digit - 1);
                row /= 9;
            }
            return row > 0 || chain == EMPTY ? NONE : chain;
        }
    }

    /** All that a TEXT tells and ACTS change. */
    private static final class Play {
        int parties;
        int liars;
        int planCount;
        int omitCount;
        int lateCount;
        final int[] settings = new int[SETTINGS];
        final int[] planRoute = new int[MOST_PLANS];
        final int[] planValue = new int[MOST_PLANS];
        final int[] planChain = new int[MOST_PLANS];
        final int[] omitRoute = new int[MOST_FAULTS];
        final int[] lateRoute = new int[MOST_FAULTS];
        final int[] lateBy = new int[MOST_FAULTS];

        Play() {
            clear();
        }

        void clear() {
            parties = 0;
            liars = 0;
            planCount = 0;
            omitCount = 0;
            lateCount = 0;
            settings[SENDER] = 0;
            settings[VALUE] = 0;
            settings[ROUNDS] = 1;
            settings[DEFAULT] = 0;
            settings[CUT] = 2;
        }

        void become(Play other) {
            parties = other.parties;
            liars = other.liars;
            planCount = other.planCount;
            omitCount = other.omitCount;
            lateCount = other.lateCount;
            System.arraycopy(other.settings, 0, settings, 0, SETTINGS);
            System.arraycopy(other.planRoute, 0, planRoute, 0, MOST_PLANS);
            System.arraycopy(other.planValue, 0, planValue, 0, MOST_PLANS);
            System.arraycopy(other.planChain, 0, planChain, 0, MOST_PLANS);
            System.arraycopy(other.omitRoute, 0, omitRoute, 0, MOST_FAULTS);
            System.arraycopy(other.lateRoute, 0, lateRoute, 0, MOST_FAULTS);
            System.arraycopy(other.lateBy, 0, lateBy, 0, MOST_FAULTS);
        }

        boolean hasParty(int party) {
            return party >= 0 && party < parties;
        }

        boolean isLiar(int party) {
            return hasParty(party) && (liars >> party & 1) != 0;
        }

        boolean isHonest(int party) {
            return hasParty(party) && (liars >> party & 1) == 0;
        }

        int honest() {
            return ((1 << parties) - 1) & ~liars;
        }

        boolean hasSetting(int what, int value) {
            return parties > 0 && what >= 0 && what < SETTINGS
                    && value >= leastSetting(what) && value <= mostSetting(what);
        }

        int leastSetting(int what) {
            return what == ROUNDS || what == CUT ? 1 : 0;
        }

        int mostSetting(int what) {
            switch (what) {
                case SENDER:
                    return parties - 1;
                case ROUNDS:
                    return MOST_ROUNDS;
                case CUT:
                    return 4;
                default:
                    return VALUES - 1;
            }
        }

        boolean hasRoute(int round, int from, int to) {
            return round >= 1 && round <= MOST_ROUNDS
                    && hasParty(from) && hasParty(to) && from != to;
        }

        boolean hasMarks(int chain) {
            return chain != NONE && Chain.bearers(chain) >> parties == 0;
        }

        boolean isOmitted(int route) {
            return isAmong(omitRoute, omitCount, route);
        }

        boolean isLate(int route) {
            return isAmong(lateRoute, lateCount, route);
        }

        private static boolean isAmong(int[] routes, int count, int route) {
            for (int i = 0; i < count && i < routes.length; i++) {
                if (routes[i] == route) {
                    return true;
                }
            }
            return false;
        }

        void addPlan(int route, int value, int chain) {
            if (planCount < MOST_PLANS) {
                planRoute[planCount] = route;
                planValue[planCount] = value;
                planChain[planCount] = chain;
                planCount++;
            }
        }

        void addOmit(int route) {
            if (omitCount < MOST_FAULTS) {
                omitRoute[omitCount] = route;
                omitCount++;
            }
        }

        void addLate(int route, int by) {
            if (lateCount < MOST_FAULTS) {
                lateRoute[lateCount] = route;
                lateBy[lateCount] = by;
                lateCount++;
            }
        }

        /** Of the kinds of drop(): PLANNED LETTERS 0, OMITS 1, LATES 2; none of others. */
        int sizeOf(int kind) {
            switch (kind) {
                case 0:
                    return planCount;
                case 1:
                    return omitCount;
                case 2:
                    return lateCount;
                default:
                    return 0;
            }
        }

        void remove(int kind, int k) {
            switch (kind) {
                case 0:
                    closeGap(planRoute, k);
                    closeGap(planValue, k);
                    closeGap(planChain, k);
                    planCount--;
                    break;
                case 1:
                    closeGap(omitRoute, k);
                    omitCount--;
                    break;
                case 2:
                    closeGap(lateRoute, k);
                    closeGap(lateBy, k);
                    lateCount--;
                    break;
                default:
                    break;
            }
        }

        private static void closeGap(int[] row, int k) {
            for (int i = Math.max(k, 0) + 1; i < row.length; i++) {
                row[i - 1] = row[i];
            }
        }

        void swap(int a, int b) {
            settings[SENDER] = swapped(settings[SENDER], a, b);
            int differ = ((liars >> a) ^ (liars >> b)) & 1;
            liars ^= (differ << a) | (differ << b);
            for (int i = 0; i < planCount; i++) {
                planRoute[i] = Route.traded(planRoute[i], a, b);
                planChain[i] = Chain.traded(planChain[i], a, b);
            }
            for (int i = 0; i < omitCount; i++) {
                omitRoute[i] = Route.traded(omitRoute[i], a, b);
            }
            for (int i = 0; i < lateCount; i++) {
                lateRoute[i] = Route.traded(lateRoute[i], a, b);
            }
        }

        /** The SENDER's MARK and, behind it, those of the least LIARS that are not the SENDER. */
        int liarsChain(int size) {
            int sender = settings[SENDER];
            int chain = Chain.with(Chain.EMPTY, sender);
            for (int party = 0; party < parties; party++) {
                if (isLiar(party) && party != sender && Chain.size(chain) < size) {
                    chain = Chain.with(chain, party);
                }
            }
            return chain;
        }

        int soundParties() {
            int touched = 0;
            for (int i = 0; i < omitCount; i++) {
                touched |= endsOf(omitRoute[i]);
            }
            for (int i = 0; i < lateCount; i++) {
                touched |= endsOf(lateRoute[i]);
            }
            return honest() & ~touched;
        }

        private static int endsOf(int route) {
            return (1 << Route.fromOf(route)) | (1 << Route.toOf(route));
        }

        /** PLANNED LETTERS that are not even tried: behind the last ROUND, or of no LIAR. */
        int idlePlans() {
            int idle = 0;
            for (int i = 0; i < planCount; i++) {
                boolean behind = Route.roundOf(planRoute[i]) > settings[ROUNDS];
                if (behind || !isLiar(Route.fromOf(planRoute[i]))) {
                    idle |= 1 << i;
                }
            }
            return idle;
        }
    }

    /** The TAPE, and the reading of it as a TEXT that tells a PLAY. */
    private static final class Tape {
        private static final int CANNOT_STAND = 1;
        private static final int NOT_AS_TOLD = 2;
        private static final int TOO_MANY = 3;
        private static final int TWICE = 4;
        private static final int HUGE = 100;

        private static final int LIAR = 5;
        private static final int LETTER = 6;
        private static final int OMIT = 7;
        private static final int LATE = 8;

        final char[] bytes = new char[MOST_BYTES];
        final Play told = new Play();
        int length = 0;
        /** The FAULT, 0 while there is none; only the first one is noted. */
        int wrong = 0;
        private int at = 0;
        private int began = 0;

        void append(int number) {
            for (int shift = 24; shift >= 0; shift -= 8) {
                if (length < MOST_BYTES) {
                    bytes[length] = (char) (number >> shift & 255);
                    length++;
                }
            }
        }

        void read() {
            told.clear();
            wrong = 0;
            at = 0;
            readWord();
            if (!isWord("play")) {
                blame(began, CANNOT_STAND);
            }
            told.parties = readNumber(LEAST_PARTIES, MOST_PARTIES);
            skipBlanks();
            for (int part = 0; part < MOST_BYTES && wrong == 0 && at < length; part++) {
                readSign(';');
                readPart();
                skipBlanks();
            }
        }

        private void readPart() {
            readWord();
            int part = partOf();
            switch (part) {
                case NONE:
                    blame(began, CANNOT_STAND);
                    break;
                case LIAR:
                    readLiars();
                    break;
                case LETTER:
                    readLetter();
                    break;
                case OMIT:
                    readOmit();
                    break;
                case LATE:
                    readLate();
                    break;
                default:
                    told.settings[part] = readNumber(told.leastSetting(part), told.mostSetting(part));
                    break;
            }
        }

        private int partOf() {
            if (isWord("sender")) {
                return SENDER;
            }
            if (isWord("value")) {
                return VALUE;
            }
            if (isWord("rounds")) {
                return ROUNDS;
            }
            if (isWord("default")) {
                return DEFAULT;
            }
            if (isWord("cut")) {
                return CUT;
            }
            if (isWord("liar")) {
                return LIAR;
            }
            if (isWord("letter")) {
                return LETTER;
            }
            if (isWord("omit")) {
                return OMIT;
            }
            return isWord("late") ? LATE : NONE;
        }

        private void readLiars() {
            told.liars |= 1 << readParty();
            for (int i = 0; i < MOST_BYTES && wrong == 0 && hasNumber(); i++) {
                told.liars |= 1 << readParty();
            }
        }

        private void readLetter() {
            if (told.planCount >= MOST_PLANS) {
                blame(began, TOO_MANY);
            }
            int route = readRoute();
            int value = readNumber(0, VALUES - 1);
            readSign(':');
            int chain = Chain.with(Chain.EMPTY, readParty());
            for (int i = 0; i < MOST_BYTES && wrong == 0 && hasNumber(); i++) {
                int party = readParty();
                if (Chain.bears(chain, party)) {
                    blame(began, NOT_AS_TOLD);
                }
                chain = Chain.with(chain, party);
            }
            told.addPlan(route, value, chain);
        }

        private void readOmit() {
            if (told.omitCount >= MOST_FAULTS) {
                blame(began, TOO_MANY);
            }
            int route = readRoute();
            if (told.isOmitted(route)) {
                blame(began, TWICE);
            }
            told.addOmit(route);
        }

        private void readLate() {
            if (told.lateCount >= MOST_FAULTS) {
                blame(began, TOO_MANY);
            }
            int route = readRoute();
            if (told.isLate(route)) {
                blame(began, TWICE);
            }
            told.addLate(route, readNumber(1, MOST_LATE));
        }

        private int readRoute() {
            int round = readNumber(1, MOST_ROUNDS);
            int from = readParty();
            int to = readParty();
            if (to == from) {
                blame(began, NOT_AS_TOLD);
            }
            return Route.of(round, from, to);
        }

        private int readParty() {
            return readNumber(0, told.parties - 1);
        }

        /** The least one in place of a NUMBER that is not as told, so that callers need not ask. */
        private int readNumber(int least, int most) {
            skipBlanks();
            if (at >= length || !isDigit(bytes[at])) {
                blame(at, CANNOT_STAND);
            }
            began = at;
            int number = 0;
            while (at < length && isDigit(bytes[at])) {
                number = Math.min(number * 10 + bytes[at] - '0', HUGE);
                at++;
            }
            if (number < least || number > most) {
                blame(began, NOT_AS_TOLD);
                return least;
            }
            return number;
        }

        private boolean hasNumber() {
            skipBlanks();
            return at < length && isDigit(bytes[at]);
        }

        private void readSign(char sign) {
            skipBlanks();
            if (at < length && bytes[at] == sign) {
                at++;
            } else {
                blame(at, CANNOT_STAND);
            }
        }

        private void readWord() {
            skipBlanks();
            began = at;
            while (at < length && bytes[at] >= 'a' && bytes[at] <= 'z') {
                at++;
            }
        }

        private boolean isWord(String word) {
            if (at - began != word.length()) {
                return false;
            }
            for (int i = 0; i < word.length() && began + i < length; i++) {
                if (bytes[began + i] != word.charAt(i)) {
                    return false;
                }
            }
            return true;
        }

        private void skipBlanks() {
            while (at < length && bytes[at] == ' ') {
                at++;
            }
        }

        private static boolean isDigit(char sign) {
            return sign >= '0' && sign <= '9';
        }

        private void blame(int place, int kind) {
            if (wrong == 0) {
                wrong = 8 * place + kind;
            }
        }
    }

    /** The PLAY played, ROUND by ROUND, as it is or with one thing changed for a trial. */
    private static final class Run {
        /** Seven honest PARTIES relay four VALUES to seven others, and sixteen LETTERS are PLANNED. */
        private static final int MOST_LETTERS = 7 * 4 * 7 + MOST_PLANS;
        private static final int CELLS = MOST_PARTIES * VALUES;

        final Play of;
        int rounds;
        int plansAllowed;
        int forgedPlans;
        int letters;
        final int[] delay = new int[Route.ALL];
        final int[] route = new int[MOST_LETTERS];
        final int[] value = new int[MOST_LETTERS];
        final int[] chain = new int[MOST_LETTERS];
        final int[] comes = new int[MOST_LETTERS];
        final int[] use = new int[MOST_LETTERS];
        final int[] gotRound = new int[CELLS];
        final int[] gotFrom = new int[CELLS];
        final int[] gotChain = new int[CELLS];
        final int[] usable = new int[CELLS];
        private final int[] sets = new int[(MOST_ROUNDS + 1) * MOST_PARTIES];

        Run(Play of) {
            this.of = of;
        }

        /** As the PLAY tells, but without those of its OMITS and LATES whose bits are gone. */
        void prepare(int gone) {
            rounds = of.settings[ROUNDS];
            plansAllowed = -1;
            Arrays.fill(delay, 0);
            for (int i = 0; i < of.lateCount; i++) {
                if ((gone >> (of.omitCount + i) & 1) == 0) {
                    delay[of.lateRoute[i]] = of.lateBy[i];
                }
            }
            // OMITS behind LATES: of both on one way the OMIT holds.
            for (int i = 0; i < of.omitCount; i++) {
                if ((gone >> i & 1) == 0) {
                    delay[of.omitRoute[i]] = NEVER;
                }
            }
        }

        void play() {
            begin();
            for (int round = 1; round <= rounds && round <= MOST_ROUNDS; round++) {
                if (round == 1) {
                    sendFirst();
                } else {
                    relayAll(round);
                }
                sendPlans(round);
                System.arraycopy(sets, rowOf(round - 1), sets, rowOf(round), MOST_PARTIES);
                readAll(round);
            }
        }

        private void begin() {
            letters = 0;
            forgedPlans = 0;
            Arrays.fill(gotRound, NEVER);
            Arrays.fill(gotFrom, NONE);
            Arrays.fill(gotChain, Chain.EMPTY);
            for (int cell = 0; cell < CELLS; cell++) {
                usable[cell] = of.isLiar(cell / VALUES) ? 0 : NEVER;
            }
            for (int party = 0; party < MOST_PARTIES; party++) {
                sets[party] = 0;
            }
            int sender = of.settings[SENDER];
            if (of.isHonest(sender)) {
                gotRound[cellOf(sender, of.settings[VALUE])] = 0;
                sets[sender] = 1 << of.settings[VALUE];
            }
        }

        private void sendFirst() {
            int sender = of.settings[SENDER];
            if (of.isHonest(sender)) {
                sendOthers(1, sender, of.settings[VALUE], Chain.EMPTY);
            }
        }

        private void relayAll(int round) {
            for (int party = 0; party < of.parties; party++) {
                for (int v = 0; v < VALUES; v++) {
                    int cell = cellOf(party, v);
                    if (gotRound[cell] == round - 1 && relays(party, v)) {
                        sendOthers(round, party, v, gotChain[cell]);
                    }
                }
            }
        }

        /** Of a VALUE that an honest PARTY EXTRACTED; its own one as SENDER is never relayed. */
        boolean relays(int party, int wanted) {
            int round = gotRound[cellOf(party, wanted)];
            if (round < 1) {
                return false;
            }
            int ahead = 0;
            for (int v = 0; v < VALUES; v++) {
                int other = gotRound[cellOf(party, v)];
                if (other < round || (other == round && v < wanted)) {
                    ahead++;
                }
            }
            return ahead < of.settings[CUT];
        }

        private void sendOthers(int round, int from, int told, int marks) {
            int marked = Chain.with(marks, from);
            for (int to = 0; to < of.parties; to++) {
                if (to != from) {
                    post(Route.of(round, from, to), told, marked);
                }
            }
        }

        private void sendPlans(int round) {
            for (int i = 0; i < of.planCount; i++) {
                int way = of.planRoute[i];
                boolean tried = (plansAllowed >> i & 1) != 0
                        && Route.roundOf(way) == round && of.isLiar(Route.fromOf(way));
                if (tried && canMark(of.planChain[i], of.planValue[i], round)) {
                    post(way, of.planValue[i], of.planChain[i]);
                } else if (tried) {
                    forgedPlans |= 1 << i;
                }
            }
        }

        private boolean canMark(int marks, int told, int round) {
            for (int i = 0; i < Chain.size(marks); i++) {
                if (usable[cellOf(Chain.markAt(marks, i), told)] > round) {
                    return false;
                }
            }
            return true;
        }

        private void post(int way, int told, int marks) {
            if (letters >= MOST_LETTERS) {
                return;
            }
            int due = Route.roundOf(way) + delay[way];
            route[letters] = way;
            value[letters] = told;
            chain[letters] = marks;
            comes[letters] = due <= rounds ? due : NONE;
            use[letters] = 0;
            letters++;
        }

        private void readAll(int round) {
            for (int k = 0; k < letters; k++) {
                if (comes[k] == round) {
                    int to = Route.toOf(route[k]);
                    if (of.isLiar(to)) {
                        learn(chain[k], value[k], round);
                    } else if (counts(chain[k], round)) {
                        use[k] = takes(k, to, round) ? 2 : 1;
                    }
                }
            }
        }

        private void learn(int marks, int told, int round) {
            for (int i = 0; i < Chain.size(marks); i++) {
                int cell = cellOf(Chain.markAt(marks, i), told);
                usable[cell] = Math.min(usable[cell], round + 1);
            }
        }

        private boolean counts(int marks, int round) {
            return Chain.markAt(marks, 0) == of.settings[SENDER] && Chain.size(marks) >= round;
        }

        /** Whether the PARTY EXTRACTS the VALUE of a LETTER that COUNTS, which is noted then. */
        private boolean takes(int k, int party, int round) {
            int bit = 1 << value[k];
            int place = rowOf(round) + party;
            if ((sets[place] & bit) != 0) {
                return false;
            }
            sets[place] |= bit;
            int cell = cellOf(party, value[k]);
            gotRound[cell] = round;
            gotFrom[cell] = Route.fromOf(route[k]);
            gotChain[cell] = chain[k];
            return true;
        }

        private static int rowOf(int round) {
            return round * MOST_PARTIES;
        }

        int setOf(int party, int round) {
            return sets[rowOf(round) + party];
        }

        int decisionOf(int party) {
            int set = setOf(party, rounds);
            for (int v = 0; v < VALUES; v++) {
                if (set == 1 << v) {
                    return v;
                }
            }
            return of.settings[DEFAULT];
        }

        boolean haveOneDecision(int some) {
            int one = NONE;
            for (int party = 0; party < of.parties; party++) {
                if ((some >> party & 1) != 0) {
                    int decided = decisionOf(party);
                    if (one != NONE && one != decided) {
                        return false;
                    }
                    one = decided;
                }
            }
            return true;
        }

        private boolean haveOneSet(int some, int round) {
            int one = NONE;
            for (int party = 0; party < of.parties; party++) {
                if ((some >> party & 1) != 0) {
                    int set = setOf(party, round);
                    if (one != NONE && one != set) {
                        return false;
                    }
                    one = set;
                }
            }
            return true;
        }

        int firstUnited(int some) {
            for (int round = rounds; round >= 0; round--) {
                if (!haveOneSet(some, round)) {
                    return round == rounds ? NOT_SO : round + 1;
                }
            }
            return 0;
        }

        int firstStill() {
            for (int round = rounds; round >= 1; round--) {
                if (someSetChanges(round)) {
                    return round;
                }
            }
            return 0;
        }

        private boolean someSetChanges(int round) {
            for (int party = 0; party < of.parties; party++) {
                if (setOf(party, round) != setOf(party, round - 1)) {
                    return true;
                }
            }
            return false;
        }

        /** The first ROUND by which the SENDER's MARK came on two VALUES; NOT_SO if it did not. */
        int firstTwoFaced(int party) {
            int sender = of.settings[SENDER];
            int seen = party == sender ? 1 << of.settings[VALUE] : 0;
            for (int round = 1; round <= rounds; round++) {
                for (int k = 0; k < letters; k++) {
                    boolean came = comes[k] == round && Route.toOf(route[k]) == party;
                    if (came && Chain.bears(chain[k], sender)) {
                        seen |= 1 << value[k];
                    }
                }
                if (Integer.bitCount(seen) > 1) {
                    return round;
                }
            }
            return NOT_SO;
        }

        boolean anyComes(int way) {
            for (int k = 0; k < letters; k++) {
                if (route[k] == way && comes[k] != NONE) {
                    return true;
                }
            }
            return false;
        }

        int lettersOf(int round) {
            int found = 0;
            for (int k = 0; k < letters; k++) {
                if (Route.roundOf(route[k]) == round) {
                    found++;
                }
            }
            return found;
        }

        private int bitsOfLetter(int k) {
            return 2 + 3 + 3 * Chain.size(chain[k]);
        }

        int bitsOf(int round) {
            int sum = 0;
            for (int k = 0; k < letters; k++) {
                if (Route.roundOf(route[k]) == round) {
                    sum += bitsOfLetter(k);
                }
            }
            return sum;
        }

        int greatestBits() {
            int greatest = 0;
            for (int k = 0; k < letters; k++) {
                greatest = Math.max(greatest, bitsOfLetter(k));
            }
            return greatest;
        }

        int loadOf(int from, int to) {
            int found = 0;
            for (int k = 0; k < letters; k++) {
                if (Route.fromOf(route[k]) == from && Route.toOf(route[k]) == to) {
                    found++;
                }
            }
            return found;
        }

        int greatestLoad() {
            int greatest = 0;
            for (int from = 0; from < of.parties; from++) {
                for (int to = 0; to < of.parties; to++) {
                    greatest = Math.max(greatest, loadOf(from, to));
                }
            }
            return greatest;
        }

        /** LETTERS that came to honest PARTIES with fewer MARKS than ROUNDS had gone. */
        int shortLetters() {
            int found = 0;
            for (int k = 0; k < letters; k++) {
                boolean isShort = comes[k] != NONE && Chain.size(chain[k]) < comes[k];
                if (isShort && of.isHonest(Route.toOf(route[k]))) {
                    found++;
                }
            }
            return found;
        }
    }
}
