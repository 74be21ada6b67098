/** Boundary cases of what is asked of all together, and of what would be: promises 26 to 32, 38, 39; and without a PLAY. */
final class EdgesOfTogether {
    /** Behind round 2 party 0 has {2}, 2 has {0, 2}, 3 has {2}; 1 (the sender) and 4 lie. */
    private static final String PARTED =
            "play 5;sender 1;rounds 2;default 3;liar 1 4;letter 1 1 0 2:1;letter 2 4 2 0:1 4";
    private static final Edges.Scene IN_PARTED = () -> Check.of(PARTED);

    private final Edges e;

    private EdgesOfTogether(Edges e) {
        this.e = e;
    }

    static void run(Edges e) {
        EdgesOfTogether t = new EdgesOfTogether(e);
        t.alike();
        t.valid();
        t.sound();
        t.parted();
        t.partedFirstSix();
        t.withFaults();
        t.slack();
        t.slackInPlace();
        t.slackRefused();
        t.crucial();
        t.crucialEdges();
        t.least();
        t.calm();
        t.heal();
        t.healFirstSix();
        t.withoutPlay(new MarkedChains());
        MarkedChains x = new MarkedChains();
        x.keep(0);
        Check.tell(x, PARTED);
        x.back(0);
        t.withoutPlay(x);
    }

    private void alike() {
        e.says(26, "Whether all SOUND PARTIES have one DECISION (1, 0; 1 if there is none)");
        e.due("parted", Check.of(PARTED).alike(), 0);
        e.due("one that is sound differs from none", Check.of(PARTED + ";omit 8 2 1").alike(), 1);
        e.due("one alone", Check.of(PARTED + ";omit 8 0 2").alike(), 1);
        e.due("none: liars all", Check.of("play 3;liar 0 1 2").alike(), 1);
        e.due("none: all are of omits", Check.of("play 3;value 1;omit 1 0 1;omit 8 1 2").alike(), 1);
        MarkedChains x = Check.of("play 8;liar 0;letter 1 0 7 1:0");
        e.due("the last one differs", x.alike(), 0);
        x.lies(7);
        e.due("it lies", x.alike(), 1);
        x = Check.of("play 8;sender 7;liar 7;letter 1 7 0 1:7");
        e.due("the first one differs", x.alike(), 0);
        x.settle(3, 1);
        e.due("sets differ, not what they decide", x.alike(), 1);
    }

    private void valid() {
        e.says(27, "Whether the SENDER is a LIAR or not SOUND, or all SOUND PARTIES have its VALUE as DECISION (1, 0)");
        e.due("a liar", Check.of(PARTED).valid(), 1);
        e.due("not sound", Check.of("play 3;value 1;omit 1 0 1;omit 1 0 2").valid(), 1);
        e.due("not sound, of a late", Check.of("play 3;value 1;late 8 1 0 1").valid(), 1);
        for (int v = 0; v < 4; v++) {
            for (int n = 3; n <= 8; n++) {
                e.due("all have it", Check.of("play " + n + ";sender " + (n - 1) + ";value " + v + ";default 1").valid(), 1);
            }
        }
        e.due("one that is not sound has not", Check.of("play 4;value 1;omit 2 1 2;late 1 3 2 1").valid(), 1);
    }

    private void sound() {
        e.says(28, "SOUND PARTIES, as bits");
        e.due("all of 3", Check.of("play 3").sound(), 7);
        e.due("all of 8", Check.of("play 8").sound(), 255);
        e.due("none lies", Check.of(PARTED).sound(), 0b1101);
        e.due("the last alone", Check.of("play 8;liar 0 1 2 3 4 5 6").sound(), 128);
        e.due("none", Check.of("play 8;liar 0 1 2 3 4 5 6 7").sound(), 0);
        e.due("twelve of each", Check.of(Edges.many(Edges.many("play4", 12, "omit#"), 12, "late# 1")).sound(), 8);
    }

    private void parted() {
        e.says(29, "The fewest of the first 6 PLANNED LETTERS (others stay) by which not all SOUND PARTIES have one "
                + "DECISION, as bits");
        e.due("the second of two", Check.of(PARTED).parted(), 2);
        // Either value alone is relayed to all; of both, with a cut of 1, only the lower one.
        String two = "play 4;liar 0 3;cut 1;rounds 2;letter 1 0 1 1:0;letter 1 0 1 2:0";
        e.due("both are needed", Check.of(two).parted(), 3);
        e.due("one of them is not enough", Check.of(two + ";cut 2").parted(), -2);
        e.due("the fewest, not the least", Check.of(two + ";letter 8 0 1 0:0;letter 2 3 1 2:0 3").parted(), 8);
        e.says(29, "of as many the least");
        e.due("of three pairs", Check.of(two + ";letter 1 0 1 3:0").parted(), 3);
        String idle = ";letter 8 0 1 0:0";
        String pairs = "play 4;liar 0 3;cut 1;rounds 2" + idle + ";letter 1 0 1 1:0" + idle + ";letter 1 0 1 2:0" + idle
                + ";letter 1 0 1 3:0";
        e.due("of three pairs", Check.of(pairs).parted(), 10);
        e.due("of two single ones", Check.of("play 4;liar 0" + idle + ";letter 1 0 1 1:0;letter 1 0 2 1:0").parted(), 2);
        e.says(29, "-2: by none");
        e.due("no letters", Check.of("play 3").parted(), -2);
        e.due("none is sound", Check.of("play 3;liar 0;letter 1 0 1 1:0;omit 8 1 2").parted(), -2);
        e.due("one is sound", Check.of("play 3;liar 0 2;letter 1 0 1 1:0").parted(), -2);
        e.due("all honest ones lie", Check.of("play 3;liar 0 1 2;letter 1 0 1 1:0").parted(), -2);
        e.due("of the default", Check.of("play 4;liar 0;default 1;letter 1 0 1 1:0").parted(), -2);
        e.due("forged", Check.of("play 4;liar 3;letter 1 3 1 1:0").parted(), -2);
        e.says(29, "NONE without PARTIES");
        e.due("parted()", new MarkedChains().parted(), -1);
    }

    private void partedFirstSix() {
        e.says(29, "of the first 6 PLANNED LETTERS (others stay)");
        String idle = ";letter 8 0 1 0:0";
        for (int ahead = 0; ahead <= 9; ahead++) {
            MarkedChains x = Check.of("play 4;liar 0" + idle.repeat(ahead) + ";letter 1 0 1 1:0");
            e.due("with " + ahead + " ahead of it", x.parted(), ahead < 6 ? 1 << ahead : 0);
        }
        // The seventh and the eighth give 1 to both; one of the first six has to part them.
        String rest = ";letter 1 0 1 1:0;letter 1 0 2 1:0";
        e.due("the sixth, for what stays", Check.of("play 3;liar 0" + idle.repeat(5) + ";letter 1 0 2 2:0" + rest).parted(), 32);
        e.due("none of six", Check.of("play 3;liar 0" + idle.repeat(6) + rest).parted(), -2);
        StringBuilder all = new StringBuilder("play8;liar0;cut1;rounds2");
        for (int i = 0; i < 12; i++) {
            all.append(";letter1 0 ").append(1 + i % 6).append(i < 6 ? " 1:0" : " 2:0");
        }
        // 2 stays with 1 to 6; each that gets 1 too relays that. Only if all six do, 7 has 1 alone.
        e.due("all six", Check.of(all.toString()).parted(), 63);
        MarkedChains x = Check.of(PARTED);
        x.parted();
        e.due("all stay as they are", x.count(7), 2);
        e.due("and are sent", x.sent(-1), 6);
    }

    /** 1, who is not sound, would tell 2 and 3 in round 2 what a liar tells 2; but it does not come to 1. */
    private void withFaults() {
        String idle = ";letter 8 0 1 0:0";
        String text = "play 5;liar 0 4;rounds 2;letter 2 4 2 1:0 4" + idle.repeat(5) + ";letter 1 0 1 1:0";
        e.says(29, "by which not all SOUND PARTIES have one DECISION: OMITS and LATES as they are");
        e.due("without", Check.of(text + ";omit 8 0 1").parted(), -2);
        e.due("with an omit", Check.of(text + ";omit 1 0 1").parted(), 1);
        e.due("with a late", Check.of(text + ";late 1 0 1 7").parted(), 1);
        e.says(32, "(all else as it is)");
        e.due("without", Check.of(text + ";omit 8 0 1").least(), 1);
        e.due("with an omit", Check.of(text + ";omit 1 0 1").least(), 3);
        e.due("with a late", Check.of(text + ";late 1 0 1 7").least(), 3);
    }

    private void slack() {
        e.says(30, "By how many ROUNDS (0 to 7, the most) what a PARTY sends another one in a ROUND may come LATE");
        String[] rows = {"0", "0 1", "0 1 2", "0 1 2 3", "0 1 2 3 4", "0 1 2 3 4 5", "0 1 2 3 4 5 6"};
        for (int marks = 1; marks <= 7; marks++) {
            for (int rounds = 1; rounds <= 8; rounds++) {
                String text = "play 8;default 1;liar 0 1 2 3 4 5 6;rounds " + rounds + ";letter 1 0 7 2:" + rows[marks - 1];
                e.due(marks + " marks in " + rounds, Check.of(text).slack(1, 0, 7), Math.min(marks, rounds) - 1);
            }
        }
        MarkedChains x = Check.of(PARTED);
        e.due("nothing is sent there", x.slack(1, 0, 2), 7);
        e.due("beyond the last round", x.slack(3, 0, 2), 7);
        e.due("in the eighth", x.slack(8, 4, 0), 7);
        e.due("to a liar", x.slack(2, 0, 4), 7);
        e.due("of the default", Check.of("play 3;value 2;default 2").slack(1, 0, 1), 7);
        e.due("to the sender", Check.of("play 3;value 2;rounds 2").slack(2, 1, 0), 7);
        e.due("from the sender", Check.of("play 3;value 2").slack(1, 0, 2), 0);
        e.due("what was relayed helps", Check.of("play 3;value 2;rounds 2").slack(1, 0, 2), 7);
        e.says(30, "all honest DECISIONS being as they are now");
        // 2 is honest, not sound: its decision is looked at all the same.
        e.due("of one that is not sound", Check.of("play 3;value 2;omit 8 2 1").slack(1, 0, 2), 0);
        // 0 learns 1's mark in round 2: late by one the planned letter is forged.
        String learned = "play 4;sender 1;value 1;rounds 3;liar 0;letter 2 0 3 1:1 0;omit 1 1 3;omit 2 2 3";
        e.due("what liars can send by it", Check.of(learned).slack(1, 1, 0), 0);
    }

    private void slackInPlace() {
        e.says(30, "in place of what LATE or OMIT tells of it");
        String four = "play 6;rounds 6;default 1;liar 0 1 2 3;letter 1 0 5 2:0 1 2 3;letter 1 0 4 2:0 1 2 3";
        e.due("without", Check.of(four).slack(1, 0, 5), 7);
        String alone = "play 6;rounds 6;default 1;liar 0 1 2 3 4;letter 1 0 5 2:0 1 2 3";
        for (int by = 1; by <= 3; by++) {
            e.due("a late by " + by + " does not add", Check.of(alone + ";late 1 0 5 " + by).slack(1, 0, 5), 3);
        }
        e.says(30, "-2: not even by 0");
        for (int by = 4; by <= 7; by++) {
            e.due("late by " + by, Check.of(alone + ";late 1 0 5 " + by).slack(1, 0, 5), -2);
        }
        e.due("omitted", Check.of(alone + ";omit 1 0 5").slack(1, 0, 5), -2);
        e.due("omitted and late", Check.of(alone + ";omit 1 0 5;late 1 0 5 1").slack(1, 0, 5), -2);
        e.due("another omit", Check.of(alone + ";omit 2 0 5").slack(1, 0, 5), 3);
        e.says(30, "for each number from 0 up to that");
        // Now late by one it comes to 1 too late to go on to 2; by 0 it would go on.
        MarkedChains x = Check.of("play 4;rounds 2;liar 0 3;letter 1 0 1 1:0 3;late 1 0 1 1");
        e.due("by 0 another one decides otherwise", x.slack(1, 0, 1), -2);
        x = EdgesOfActs.rich();
        x.slack(2, 0, 3);
        e.way(x, 2, 0, 2, 0, 3, 2);
        e.counts(x, 7, 2, 2, 2, 4);
        e.says(30, "in place of what LATE or OMIT tells: also with twelve of each");
        x = Check.of(Edges.many(Edges.many("play3", 12, "omit#"), 12, "late# 1") + ";value1");
        e.due("a 13th", x.slack(1, 0, 1), 0);
        e.due("omits", x.count(8), 12);
        e.due("lates", x.count(9), 12);
    }

    private void slackRefused() {
        e.says(30, "NONE without these (unlike PARTIES, ROUND 1 to 8)");
        MarkedChains x = Check.of(PARTED);
        e.due("round 0", x.slack(0, 0, 1), -1);
        e.due("round 9", x.slack(9, 0, 1), -1);
        e.due("round -1", x.slack(-1, 0, 1), -1);
        e.due("from 5", x.slack(1, 5, 1), -1);
        e.due("from -1", x.slack(1, -1, 1), -1);
        e.due("to 5", x.slack(1, 0, 5), -1);
        e.due("to -1", x.slack(1, 0, -1), -1);
        for (int p = 0; p < 5; p++) {
            e.due("like parties", x.slack(1, p, p), -1);
        }
        e.wraps("slack", IN_PARTED, (y, a) -> y.slack(a[0], a[1], a[2]), 8, 4, 0);
        e.due("without a play", new MarkedChains().slack(1, 0, 1), -1);
    }

    private void crucial() {
        e.says(31, "OMITS that there are not yet, of unlike PARTIES, in a ROUND (1 to ROUNDS), one of which alone would "
                + "change some honest DECISION, k NONE: how many; else the k-th as 8 times FROM and TO, rising");
        MarkedChains x = Check.of("play 8;sender 7;value 1");
        e.due("how many", x.crucial(1, -1), 7);
        for (int k = 0; k < 7; k++) {
            e.due("crucial(1, " + k + ")", x.crucial(1, k), 56 + k);
        }
        x = Check.of("play 8;value 1");
        for (int k = 0; k < 7; k++) {
            e.due("crucial(1, " + k + ")", x.crucial(1, k), k + 1);
        }
        x = Check.of(PARTED);
        e.due("round 2", x.crucial(2, -1), 3);
        e.due("0 to 2", x.crucial(2, 0), 2);
        e.due("0 to 3", x.crucial(2, 1), 3);
        e.due("4 to 2", x.crucial(2, 2), 34);
        e.says(31, "OMITS that there are not yet");
        x.omit(2, 0, 2);
        e.due("one less", x.crucial(2, -1), 2);
        e.due("the next is the first", x.crucial(2, 0), 3);
        e.due("of another round all", x.crucial(1, -1), 1);
        x = Check.of("play 4;value 1;late 1 0 1 1;late 1 0 2 7");
        e.due("where nothing comes nothing changes", x.crucial(1, -1), 1);
        e.due("0 to 3", x.crucial(1, 0), 3);
        x = Check.of("play 4;value 1;rounds 2;omit 2 2 1;omit 2 3 1;omit 2 1 2;omit 2 1 3;late 1 0 1 1");
        e.due("what is late counts for nothing", x.crucial(1, -1), 0);
        e.due("each alone helps the other: none", Check.of("play 4;value 1;rounds 2").crucial(1, -1), 0);
    }

    private void crucialEdges() {
        e.says(31, "-2: there are not so many");
        MarkedChains x = Check.of("play 8;sender 7;value 1");
        e.due("an eighth", x.crucial(1, 7), -2);
        e.due("far more", x.crucial(1, Edges.MAX), -2);
        e.due("32 more", x.crucial(1, 38), -2);
        x = Check.of("play 3;value 2;default 2");
        e.due("none", x.crucial(1, -1), 0);
        e.due("none", x.crucial(1, 0), -2);
        e.says(31, "NONE without that ROUND, for k below NONE");
        for (int rounds = 1; rounds <= 8; rounds++) {
            x = Check.of("play 3;value 1;rounds " + rounds);
            e.due("the last of " + rounds, x.crucial(rounds, -1), rounds == 1 ? 2 : 0);
            e.due("one behind it", x.crucial(rounds + 1, -1), -1);
            e.due("one behind it", x.crucial(rounds + 1, 0), -1);
            e.due("round 0", x.crucial(0, -1), -1);
        }
        x = Check.of(PARTED);
        e.due("k -2", x.crucial(1, -2), -1);
        e.due("k MIN", x.crucial(1, Edges.MIN), -1);
        e.due("round -1", x.crucial(-1, 0), -1);
        e.wraps("crucial", IN_PARTED, (y, a) -> y.crucial(a[0], -1), 2);
        e.due("without a play", new MarkedChains().crucial(1, -1), -1);
        e.says(31, "would change: nothing changes, also with twelve");
        x = Check.of(Edges.many("play 3;value 1", 12, "omit #"));
        e.due("0 to 1", x.crucial(1, -1), 1);
        e.due("0 to 1", x.crucial(1, 0), 1);
        e.due("omits", x.count(8), 12);
        e.due("acts", x.count(10), 0);
    }

    private void least() {
        e.says(32, "The fewest ROUNDS (1 to 8) with which all SOUND PARTIES have one DECISION, and with each number above "
                + "these up to 8 (all else as it is)");
        e.due("one", Check.of("play 3;value 1").least(), 1);
        e.due("none is sound", Check.of("play 3;liar 0 1 2").least(), 1);
        e.due("ROUNDS do not matter", Check.of("play 3;value 1;rounds 8").least(), 1);
        // With r liars a letter of round r parts them in r rounds alone.
        String[] liars = {"0", "0 1", "0 1 2", "0 1 2 3", "0 1 2 3 4", "0 1 2 3 4 5"};
        for (int r = 1; r <= 6; r++) {
            for (int rounds = 1; rounds <= 8; rounds += 7) {
                String text = "play 8;liar " + liars[r - 1] + ";letter " + r + " " + (r - 1) + " 7 1:" + liars[r - 1];
                e.due("parted in " + r, Check.of(text + ";rounds " + rounds).least(), r + 1);
            }
        }
        MarkedChains x = Check.of("play 8;liar 0 1 2 3 4 5;rounds 3;letter 6 5 6 1:0 1 2 3 4 5");
        e.due("with fewer they have one, but not with all above", x.least(), 7);
        e.counts(x, 1, 0, 0, 3, 0, 2);
        e.due("rounds stay", x.alike(), 1);
        e.says(32, "-2: not even with 8");
        x = Check.of("play 5;cut 1;liar 0 4;letter 1 0 1 1:0;letter 1 0 2 1:0;letter 1 0 3 1:0;letter 2 4 1 2:0 4");
        e.due("a cut of 1", x.least(), -2);
        x.settle(2, 8);
        e.due("in 8", x.least(), -2);
        x.settle(4, 2);
        e.due("a cut of 2", x.least(), 3);
        e.says(32, "NONE without PARTIES");
        e.due("least()", new MarkedChains().least(), -1);
    }

    private void calm() {
        e.says(38, "The first ROUND (0 to ROUNDS) behind which (what 0) no SET of an honest PARTY changes any more");
        String[] liars = {"0", "0 1", "0 1 2", "0 1 2 3", "0 1 2 3 4", "0 1 2 3 4 5"};
        for (int rounds = 1; rounds <= 8; rounds++) {
            e.due("nothing", Check.of("play 3;liar 0;rounds " + rounds).calm(0), 0);
            e.due("in the first", Check.of("play 3;value 1;rounds " + rounds).calm(0), 1);
            for (int r = 1; r <= 6; r++) {
                String text = "play 8;liar " + liars[r - 1] + ";letter " + r + " " + (r - 1) + " 7 1:" + liars[r - 1];
                int last = rounds < r ? 0 : Math.min(rounds, r + 1);
                e.due("of " + r + " in " + rounds, Check.of(text + ";rounds " + rounds).calm(0), last);
            }
        }
        for (int p = 0; p < 4; p++) {
            String alone = "play 5;sender 4;liar 4;letter 1 4 " + p + " 1:4";
            e.due("of " + p + " alone", Check.of(alone).calm(0), 1);
            e.due("it differs", Check.of(alone).calm(1), -2);
        }
        e.due("all lie", Check.of("play 3;liar 0 1 2;rounds 3;letter 1 0 1 1:0").calm(0), 0);
        e.due("one that is not sound", Check.of("play 3;value 1;late 8 0 1 1;late 8 0 2 1").calm(0), 1);
        e.says(38, "(1) all SOUND PARTIES have one SET, there and behind all later ROUNDS");
        e.due("none is sound", Check.of("play 3;value 1;omit 1 0 1;omit 1 0 2").calm(1), 0);
        e.due("one is sound", Check.of("play 3;value 1;omit 8 1 2").calm(1), 0);
        e.due("of nothing", Check.of("play 3;liar 0;rounds 8").calm(1), 0);
        e.due("in the first", Check.of("play 3;value 1;rounds 8").calm(1), 1);
        for (int r = 1; r <= 6; r++) {
            String text = "play 8;liar " + liars[r - 1] + ";letter " + r + " " + (r - 1) + " 7 1:" + liars[r - 1];
            e.due("there, and behind all later, of " + r, Check.of(text + ";rounds 8").calm(1), r + 1);
            e.due("in the last, of " + r, Check.of(text + ";rounds " + (r + 1)).calm(1), r + 1);
        }
        e.says(38, "(-2: not even behind the last)");
        for (int r = 1; r <= 6; r++) {
            String text = "play 8;liar " + liars[r - 1] + ";letter " + r + " " + (r - 1) + " 7 1:" + liars[r - 1];
            e.due("parted in the last, " + r, Check.of(text + ";rounds " + r).calm(1), -2);
        }
        e.due("sets, not decisions", Check.of("play 3;liar 0;default 1;letter 1 0 1 1:0").calm(1), -2);
        e.says(38, "NONE for others, without a PLAY");
        e.due("calm(2)", Check.of(PARTED).calm(2), -1);
        e.due("calm(-1)", Check.of(PARTED).calm(-1), -1);
        e.wraps("calm", IN_PARTED, (y, a) -> y.calm(a[0]), 1);
        e.due("calm(0)", new MarkedChains().calm(0), -1);
        e.due("calm(1)", new MarkedChains().calm(1), -1);
    }

    private void heal() {
        e.says(39, "The fewest of the first 6 OMITS and LATES (OMITS first, by numbers) that have to go so that all honest "
                + "PARTIES have one DECISION, as bits");
        e.due("none has to", Check.of("play 3;value 1").heal(), 0);
        e.due("none has to", Check.of("play 3;value 1;omit 8 0 1").heal(), 0);
        e.due("none has to: none is honest", Check.of("play 3;liar 0 1 2;omit 1 0 1").heal(), 0);
        e.due("the omit", Check.of("play 3;value 1;omit 1 0 1").heal(), 1);
        e.due("the late", Check.of("play 3;value 1;late 1 0 1 1").heal(), 1);
        e.due("the late behind the omit", Check.of("play 3;value 1;late 1 0 1 1;omit 8 0 1").heal(), 2);
        e.due("both of one way", Check.of("play 3;value 1;late 1 0 1 1;omit 1 0 1").heal(), 3);
        e.due("not sound, but honest", Check.of("play 4;value 1;omit 1 0 3").heal(), 1);
        e.says(39, "the fewest");
        // Without the third 1 relays to all; without the first two both 2 and 3 have it, and 1 of them. What 2
        // and 3 send each other is omitted for good, as the seventh and the eighth.
        String some = "play 4;value 1;rounds 2;omit 1 0 2;omit 1 0 3;omit 1 0 1;omit 8 0 1;omit 8 0 2;omit 8 0 3;"
                + "omit 2 2 3;omit 2 3 2";
        e.due("one, not the two whose bits are less", Check.of(some).heal(), 4);
        e.says(39, "of as many the least");
        e.due("of two pairs, as 1 cannot tell 2", Check.of(some + ";omit 2 1 2").heal(), 3);
        e.due("of three single ones", Check.of("play 4;value 1;rounds 2;omit 1 0 2;omit 1 0 3;omit 1 0 1").heal(), 1);
        e.says(39, "-2: by none");
        e.due("parted by letters", Check.of(PARTED).heal(), -2);
        e.due("parted by letters", Check.of(PARTED + ";omit 8 0 1;late 8 0 1 1").heal(), -2);
        e.says(39, "NONE without a PLAY");
        e.due("heal()", new MarkedChains().heal(), -1);
    }

    private void healFirstSix() {
        e.says(39, "of the first 6 OMITS and LATES");
        StringBuilder idle = new StringBuilder("play 4;value 1");
        for (int ahead = 0; ahead <= 9; ahead++) {
            int want = ahead < 6 ? 1 << ahead : -2;
            e.due("an omit with " + ahead + " ahead", Check.of(idle + ";omit 1 0 3").heal(), want);
            e.due("a late with " + ahead + " ahead", Check.of(idle + ";late 1 0 3 1").heal(), want);
            idle.append(";omit ").append(2 + ahead % 7).append(ahead < 7 ? " 1 2" : " 2 1");
        }
        String six = "play 7;value 1;omit 1 0 1;omit 1 0 2;omit 1 0 3";
        e.due("all six", Check.of(six + ";late 1 0 4 1;late 1 0 5 1;late 1 0 6 1").heal(), 63);
        e.due("a seventh stays", Check.of("play 8" + six.substring(6) + ";late 1 0 4 1;late 1 0 5 1;late 1 0 6 1;late 1 0 7 1").heal(), -2);
        e.due("the seventh does nothing", Check.of(six + ";late 1 0 4 1;late 1 0 5 1;late 1 0 6 1;late 8 0 6 1").heal(), 63);
        MarkedChains x = Check.of(six);
        e.due("three", x.heal(), 7);
        e.counts(x, 7, 0, 3, 0, 0);
    }

    /** What stands for a call without a PLAY: all that is asked is NONE, whatever the numbers. */
    private void withoutPlay(MarkedChains x) {
        e.says(0, "Without PARTIES there is no PLAY: all that is asked of PARTIES, LETTERS is NONE");
        for (int i = -1; i <= 3; i++) {
            long[] none = {x.set(i, 0), x.set(0, i), x.decision(i), x.extracted(i, 0, 0), x.extracted(0, 0, i), x.letter(i, 0),
                x.letter(0, i), x.mark(i, 0), x.mark(0, i), x.packed(i), x.sent(i), x.known(i, 0), x.known(0, i), x.parted(),
                x.slack(1, 0, i), x.crucial(i, 0), x.crucial(1, i), x.least(), x.holders(i, 0), x.holders(0, i), x.path(0, 0, i),
                x.path(i, 0, 0), x.caught(i), x.bits(i), x.load(i, 0), x.load(i, 1), x.load(0, i), x.calm(i), x.heal(),
                x.planned(i, 0), x.planned(0, i), x.fault(1, i, 0), x.fault(2, i, 0)};
            for (int call = 0; call < none.length; call++) {
                e.due("call " + call + " with " + i, none[call], -1);
            }
        }
        e.says(0, "alike(), valid() are 1, sound(), forged() 0");
        e.due("alike()", x.alike(), 1);
        e.due("valid()", x.valid(), 1);
        e.due("sound()", x.sound(), 0);
        e.due("forged(0)", x.forged(0), 0);
        e.due("forged(1)", x.forged(1), 0);
        e.due("forged(2)", x.forged(2), -1);
        e.due("forged(-1)", x.forged(-1), -1);
        e.says(0, "what is asked of neither is answered as ever: open(), count()");
        e.due("open(78, 0)", x.open(78, 0), 2);
        e.due("open(78, 12)", x.open(78, 12), -2);
        e.counts(x, 0, 0, 0, 0, 1, 0, 2, 0, 0, 0, 0, 0, 0);
        e.due("count(13)", x.count(13), 0);
        e.due("count(14)", x.count(14), -1);
    }
}
