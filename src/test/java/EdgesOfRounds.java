/** Boundary cases of what is sent, comes, COUNTS and is EXTRACTED, and of what PARTIES decide: Terms II. */
final class EdgesOfRounds {
    private final Edges e;

    private EdgesOfRounds(Edges e) {
        this.e = e;
    }

    static void run(Edges e) {
        EdgesOfRounds t = new EdgesOfRounds(e);
        t.sentThenRead();
        t.firstRound();
        t.orderOfSending();
        t.relayedOnce();
        t.cut();
        t.cutByRound();
        t.ownValue();
        t.plannedOnes();
        t.forgedMarks();
        t.forgedByWay();
        t.comes();
        t.comesLate();
        t.omitAndLate();
        t.orderOfReading();
        t.countsBySender();
        t.countsByMarks();
        t.takenOnce();
        t.decisions();
        t.sound();
        t.fullest();
        t.playedAnew();
    }

    private void sentThenRead() {
        e.says(0, "ROUND by ROUND, 1 to ROUNDS: all LETTERS of the ROUND are sent, then what comes in it is read");
        for (int rounds = 1; rounds <= 8; rounds++) {
            MarkedChains x = Check.of("play 3;value 2;rounds " + rounds);
            e.due("round 1 of " + rounds, x.sent(1), 2);
            e.due("what comes in it goes on in the next", x.sent(2), rounds >= 2 ? 4 : 0);
            e.due("in all", x.sent(-1), rounds >= 2 ? 6 : 2);
        }
        MarkedChains x = Check.of("play 3;rounds 3;liar 0;letter 3 0 1 1:0;letter 4 0 1 1:0");
        e.due("one of the last round is sent, one behind it is not", x.sent(-1), 1);
        x.settle(2, 2);
        e.due("both are behind the last", x.sent(-1), 0);
    }

    private void firstRound() {
        e.says(0, "in ROUND 1 the SENDER (if it is honest): its VALUE with its MARK");
        for (int sender = 0; sender < 3; sender++) {
            MarkedChains x = Check.of("play 3;sender " + sender + ";value 3");
            e.due("as many as there are others", x.sent(-1), 2);
            e.letter(x, 0, 1, sender, sender == 0 ? 1 : 0, 3, 1, 1, 2);
            e.letter(x, 1, 1, sender, sender == 2 ? 1 : 2, 3, 1, 1, 2);
            e.due("its mark", x.mark(0, 0), sender);
            x.lies(sender);
            e.due("none of a liar", x.sent(-1), 0);
        }
    }

    private void orderOfSending() {
        e.says(0, "Sent, in this order: by honest PARTIES, by numbers: .. of the VALUES that it EXTRACTED in the ROUND "
                + "ahead, by their numbers, .. each to all others, by numbers. .. Then PLANNED LETTERS of that ROUND, by numbers");
        MarkedChains x = Check.of("play 5;rounds 2;cut 4;liar 0 4;letter 2 4 2 3:0 4;letter 1 0 3 1:0;letter 1 0 1 2:0;"
                + "letter 2 0 2 3:0 4;letter 1 0 1 0:0");
        int[][] wants = {{1, 0, 3, 1}, {1, 0, 1, 2}, {1, 0, 1, 0},
            {2, 1, 0, 0}, {2, 1, 2, 0}, {2, 1, 3, 0}, {2, 1, 4, 0}, {2, 1, 0, 2}, {2, 1, 2, 2}, {2, 1, 3, 2}, {2, 1, 4, 2},
            {2, 3, 0, 1}, {2, 3, 1, 1}, {2, 3, 2, 1}, {2, 3, 4, 1}, {2, 4, 2, 3}, {2, 0, 2, 3}};
        e.due("how many", x.letter(-1, 0), wants.length);
        for (int k = 0; k < wants.length; k++) {
            e.letter(x, k, wants[k]);
        }
        e.says(0, "with the MARKS of the LETTER of which it EXTRACTED it, and its own behind them");
        x = Check.of("play 8;rounds 2;liar 0 1 2 3 4 5 6;letter 1 6 7 2:0 6 5 4 3 2 1");
        e.due("one and seven", x.sent(-1), 8);
        e.due("eight marks", x.letter(1, 4), 8);
        int[] marks = {0, 6, 5, 4, 3, 2, 1, 7, -1};
        for (int i = 0; i < marks.length; i++) {
            e.due("mark(7, " + i + ")", x.mark(7, i), marks[i]);
        }
    }

    private void relayedOnce() {
        e.says(0, "in others each one: of the VALUES that it EXTRACTED in the ROUND ahead");
        for (int n = 3; n <= 8; n++) {
            MarkedChains x = Check.of("play " + n + ";value 1;rounds 8");
            e.due("sent(1)", x.sent(1), n - 1);
            e.due("sent(2)", x.sent(2), (n - 1) * (n - 1));
            for (int round = 3; round <= 8; round++) {
                e.due("sent(" + round + ")", x.sent(round), 0);
            }
        }
        // Taken in round 3, relayed in round 4 alone.
        MarkedChains x = Check.of("play 6;rounds 6;liar 0 1 2;letter 3 2 3 1:0 1 2");
        int[] sent = {0, 0, 1, 5, 10, 0};
        for (int round = 1; round <= 6; round++) {
            e.due("sent(" + round + ")", x.sent(round), sent[round - 1]);
        }
    }

    private void cut() {
        e.says(0, "A PARTY relays a VALUE if it EXTRACTED fewer VALUES than CUT ahead of it");
        for (int cut = 1; cut <= 4; cut++) {
            MarkedChains x = Check.of("play 3;liar 0;rounds 2;letter 1 0 1 3:0;letter 1 0 1 2:0;letter 1 0 1 1:0;"
                    + "letter 1 0 1 0:0;cut " + cut);
            e.due("values of 1", x.set(1, 1), 15);
            e.due("two letters of each that goes on", x.sent(2), 2 * cut);
            e.due("values of 2", x.set(2, 2), (1 << cut) - 1);
            for (int v = 0; v < 4; v++) {
                e.due("value " + v + " with cut " + cut, x.extracted(1, v, 3), v < cut ? 1 : 0);
            }
        }
    }

    private void cutByRound() {
        e.says(0, "(by ROUND, then by number; ..)");
        // 1 takes 3 in round 1, then 2 in round 2, then 1 and 0 in round 3.
        String text = "play 5;liar 0 3 4;rounds 4;letter 1 0 1 3:0;letter 2 3 1 2:0 3;letter 3 4 1 1:0 3 4;letter 3 4 1 0:0 3 4;cut ";
        int[][] relayed = {{0, 0, 0, 1}, {0, 0, 1, 1}, {1, 0, 1, 1}, {1, 1, 1, 1}};
        int[] sets = {8, 12, 13, 15};
        for (int cut = 1; cut <= 4; cut++) {
            MarkedChains x = Check.of(text + cut);
            for (int v = 0; v < 4; v++) {
                e.due("value " + v + " with cut " + cut, x.extracted(1, v, 3), relayed[cut - 1][v]);
            }
            e.due("values of 2 with cut " + cut, x.set(2, 4), sets[cut - 1]);
        }
    }

    private void ownValue() {
        e.says(0, "the SENDER's own VALUE is one, and never relayed again");
        MarkedChains x = Check.of("play 4;sender 2;value 1;rounds 8;cut 4");
        e.due("of the sender to 0", x.load(2, 0), 1);
        e.due("of the sender to 3", x.load(2, 3), 1);
        e.due("as it relays", x.extracted(2, 1, 3), 0);
        e.due("others relay to it", x.load(0, 2), 1);
        x.settle(4, 1);
        e.due("with a cut of 1", x.sent(-1), 3 + 9);
    }

    private void plannedOnes() {
        e.says(0, "Then PLANNED LETTERS of that ROUND, by numbers, whose FROM is a LIAR");
        MarkedChains x = Check.of("play 4;sender 3;liar 3;letter 1 3 0 1:3;letter 1 0 1 2:3;letter 2 3 1 2:3;letter 1 3 1 2:3");
        e.due("two of four", x.sent(-1), 2);
        e.letter(x, 0, 1, 3, 0, 1, 1, 1, 2);
        e.letter(x, 1, 1, 3, 1, 2, 1, 1, 2);
        e.due("others that were not", x.forged(1), 6);
        x.lies(0);
        e.due("0 is a liar now", x.sent(-1), 3);
        e.due("others that were not", x.forged(1), 4);
        x.lies(3);
        e.due("3 is none: it sends its own, and 0 cannot make its mark", x.sent(-1), 3);
        e.due("forged", x.forged(0), 2);
        e.due("others that were not", x.forged(1), 13);
    }

    private void forgedMarks() {
        e.says(0, "not FORGED: each MARK is known to LIARS: it is a LIAR's");
        MarkedChains x = Check.of("play 5;liar 0 3 4;letter 1 3 1 0:0 4;letter 1 3 1 0:4;letter 1 3 1 0:2;letter 1 3 1 0:0 4 2;"
                + "letter 1 3 1 0:1 0 4;letter 1 3 1 0:3 1 4");
        e.due("one unknown mark, at any place", x.forged(0), 0b111100);
        e.due("sent", x.sent(-1), 2);
        e.says(0, "or in a ROUND ahead there came a LETTER to some LIAR");
        // 0 tells 2 to 1, 2, 3 in round 1; 1 and 2 relay it in round 2.
        x = Check.of("play 4;value 2;rounds 3;liar 3;letter 1 3 1 2:0;letter 2 3 1 2:0;letter 2 3 1 2:0 1;letter 3 3 1 2:0 1;"
                + "letter 3 3 1 2:2 1;letter 3 3 1 2:2 0 1 3");
        e.due("in the round itself they do not know it", x.forged(0), 0b101);
        e.says(0, ".. with that VALUE and that MARK in it");
        x = Check.of("play 4;value 2;rounds 3;liar 3;letter 3 3 1 2:0;letter 3 3 1 1:0;letter 3 3 1 3:1;letter 3 3 1 2:1;letter 3 3 1 0:0 3");
        e.due("of another value it is not known", x.forged(0), 0b10110);
        x = Check.of("play 5;rounds 3;liar 0 4;letter 1 0 1 2:0;letter 3 4 3 2:0 1;letter 3 4 3 2:0 2;letter 3 4 3 2:0 1 3");
        e.due("1 relayed in round 2, 2 and 3 in round 3", x.forged(0), 0b1100);
    }

    private void forgedByWay() {
        e.says(0, "there came a LETTER to some LIAR");
        // What comes to 4 alone is known to 3: 0 to 4 is the one letter that is not omitted.
        String text = "play 5;value 2;rounds 2;liar 3 4;omit 1 0 3;letter 2 3 1 2:0";
        e.due("to another liar", Check.of(text).forged(0), 0);
        e.due("to none: omitted", Check.of(text + ";omit 1 0 4").forged(0), 1);
        e.due("to none: late", Check.of(text + ";late 1 0 4 1").forged(0), 1);
        e.due("to honest ones alone", Check.of("play 4;value 2;rounds 2;liar 3;omit 1 0 3;letter 2 3 1 2:0").forged(0), 1);
        text = "play 3;value 2;rounds 4;liar 2;omit 2 1 2;late 1 0 2 2;letter 3 2 1 2:0;letter 4 2 1 2:0;letter 4 2 1 2:0 1";
        e.due("late by two: known behind round 3", Check.of(text).forged(0), 0b101);
        // A letter that counts for nobody teaches liars all the same, a forged one does not.
        text = "play 4;value 1;rounds 3;liar 2 3;omit 2 1 2;omit 2 1 3;letter 2 2 3 1:1;letter 3 2 3 1:1";
        e.due("a forged one teaches nothing", Check.of(text).forged(0), 3);
        text = "play 4;sender 3;rounds 3;liar 2 3;letter 1 3 0 1:3;letter 3 2 1 1:0 3";
        e.due("the relayed one came to liars in round 2", Check.of(text).forged(0), 0);
    }

    private void comes() {
        e.says(0, "A LETTER comes in the ROUND in which it was sent");
        MarkedChains x = Check.of("play 3;value 1;rounds 2");
        for (int k = 0; k < 6; k++) {
            e.due("letter(" + k + ", 5)", x.letter(k, 5), k < 2 ? 1 : 2);
        }
        e.says(0, "not at all, if there is an OMIT of that ROUND, FROM, TO");
        int[][] omits = {{1, 0, 1, -1}, {2, 0, 1, 1}, {1, 2, 1, 1}, {1, 0, 2, 1}, {1, 1, 0, 1}};
        for (int[] o : omits) {
            x = Check.of("play 3;value 1;rounds 1");
            x.omit(o[0], o[1], o[2]);
            e.due("0 to 1 with omit " + o[0] + " " + o[1] + " " + o[2], x.letter(0, 5), o[3]);
            e.due("what 1 has", x.set(1, 1), o[3] == 1 ? 2 : 0);
        }
        x = Check.of("play 4;liar 3;sender 3;letter 1 3 0 1:3;letter 1 3 0 2:3;omit 1 3 0");
        e.due("all letters of that way", x.letter(0, 5) + x.letter(1, 5), -2);
        e.due("they were sent", x.sent(1), 2);
    }

    private void comesLate() {
        e.says(0, "else so many ROUNDS later as a LATE of these tells (not at all behind the last ROUND)");
        for (int rounds = 1; rounds <= 8; rounds++) {
            for (int by = 1; by <= 7; by++) {
                MarkedChains x = Check.of("play 3;value 1;rounds " + rounds + ";late 1 0 1 " + by);
                e.due("by " + by + " of " + rounds, x.letter(0, 5), 1 + by <= rounds ? 1 + by : -1);
                e.due("the other one", x.letter(1, 5), 1);
            }
        }
        int[][] lates = {{2, 0, 1, 1}, {1, 2, 1, 1}, {1, 0, 2, 1}, {1, 1, 0, 1}, {1, 0, 1, 3}};
        for (int[] l : lates) {
            MarkedChains x = Check.of("play 3;value 1;rounds 3");
            x.late(l[0], l[1], l[2], 2);
            e.due("0 to 1 with late " + l[0] + " " + l[1] + " " + l[2], x.letter(0, 5), l[3]);
        }
        MarkedChains x = Check.of("play 3;value 1;rounds 8;late 2 1 0 6");
        e.due("of round 2 by 6", x.letter(2, 5), 8);
        x.drop(2, 0);
        x.late(2, 1, 0, 7);
        e.due("of round 2 by 7", x.letter(2, 5), -1);
    }

    private void omitAndLate() {
        e.says(0, "not at all, if there is an OMIT ..; else so many ROUNDS later as a LATE of these tells");
        MarkedChains x = Check.of("play 3;value 1;rounds 3;late 1 0 1 1;omit 1 0 1");
        e.due("both: not at all", x.letter(0, 5), -1);
        x.drop(2, 0);
        e.due("the omit alone", x.letter(0, 5), -1);
        x.late(1, 0, 1, 1);
        e.due("both, the late last", x.letter(0, 5), -1);
        x.drop(1, 0);
        e.due("the late alone", x.letter(0, 5), 2);
        x.drop(2, 0);
        e.due("none", x.letter(0, 5), 1);
    }

    private void orderOfReading() {
        e.says(0, "Read, of what comes in the ROUND by the order in which it was sent (ROUND by ROUND)");
        MarkedChains x = Check.of("play 5;rounds 2;liar 0 3 4;letter 2 3 1 2:0 3;letter 1 4 1 2:0 4;late 1 4 1 1");
        e.due("the one of round 1, though late and planned behind", x.extracted(1, 2, 1), 4);
        e.due("it is extracted", x.letter(0, 6), 2);
        e.due("the other one counts", x.letter(1, 6), 1);
        x.drop(2, 0);
        x.late(1, 4, 1, 2);
        e.due("it does not come at all", x.extracted(1, 2, 1), 3);
        x = Check.of("play 5;rounds 2;liar 0 4;letter 2 4 1 2:0 4;letter 1 0 3 2:0;letter 1 0 2 2:0");
        e.due("honest ones first, of these the lower one", x.extracted(1, 2, 1), 2);
        x.omit(2, 2, 1);
        e.due("then the next one", x.extracted(1, 2, 1), 3);
        x.omit(2, 3, 1);
        e.due("then the planned one", x.extracted(1, 2, 1), 4);
        x = Check.of("play 5;rounds 1;liar 0 4;letter 1 4 1 2:0 4;letter 1 0 1 2:0");
        e.due("planned ones by their numbers", x.extracted(1, 2, 1), 4);
        e.due("marks of the first", x.extracted(1, 2, 2), 2);
    }

    private void countsBySender() {
        e.says(0, "a LETTER COUNTS for an honest PARTY in ROUND r if its first MARK is the SENDER's");
        MarkedChains x = Check.of("play 4;sender 2;liar 0 2;letter 1 0 1 1:2;letter 1 0 1 2:2 0;letter 1 0 1 3:0 2;"
                + "letter 1 0 1 0:0;letter 1 2 0 1:2");
        int[] use = {2, 2, 0, 0, 0};
        for (int k = 0; k < use.length; k++) {
            e.due("letter(" + k + ", 6)", x.letter(k, 6), use[k]);
        }
        e.due("what 1 has", x.set(1, 1), 6);
        x.settle(0, 0);
        e.due("another sender: the other two", x.set(1, 1), 9);
    }

    private void countsByMarks() {
        e.says(0, "and it has r MARKS at least");
        String[] rows = {"0", "0 1", "0 1 2", "0 1 2 3", "0 1 2 3 4", "0 1 2 3 4 5", "0 1 2 3 4 5 6"};
        for (int marks = 1; marks <= 7; marks++) {
            for (int round = 1; round <= 8; round++) {
                String text = "play 8;rounds 8;liar 0 1 2 3 4 5 6;letter " + round + " 0 7 2:" + rows[marks - 1];
                MarkedChains x = Check.of(text);
                e.due(marks + " marks in round " + round, x.letter(0, 6), marks >= round ? 2 : 0);
                e.due("what 7 has", x.set(7, 8), marks >= round ? 4 : 0);
                e.due("too few marks", x.count(13), marks >= round ? 0 : 1);
            }
        }
        for (int by = 1; by <= 7; by++) {
            MarkedChains x = Check.of("play 8;rounds 8;liar 0 1 2 3 4 5 6;letter 1 0 7 2:0 1 2 3;late 1 0 7 " + by);
            e.due("four marks, late by " + by, x.letter(0, 6), by <= 3 ? 2 : 0);
        }
    }

    private void takenOnce() {
        e.says(0, "The first one that COUNTS with a VALUE that the PARTY has not in its SET: it is EXTRACTED");
        MarkedChains x = Check.of("play 3;liar 0;rounds 2;letter 1 0 1 2:0;letter 1 0 1 2:0;letter 2 0 1 2:0;letter 1 0 1 1:0");
        int[] use = {2, 1, 2};
        for (int k = 0; k < use.length; k++) {
            e.due("letter(" + k + ", 6)", x.letter(k, 6), use[k]);
        }
        e.due("one mark in round 2", x.letter(x.letter(-1, 0) - 1, 6), 0);
        e.due("once relayed", x.sent(2), 2 * 2 + 1);
        e.says(0, "The SET of an honest SENDER has its VALUE ahead of all ROUNDS, of others nothing");
        for (int v = 0; v < 4; v++) {
            x = Check.of("play 3;sender 1;rounds 2;value " + v);
            e.due("of the sender", x.set(1, 0), 1 << v);
            e.due("of 0", x.set(0, 0), 0);
            e.due("of 2", x.set(2, 0), 0);
            e.due("what comes back to it counts", x.letter(2, 6), 1);
        }
    }

    private void decisions() {
        e.says(0, "DECISION, behind the last ROUND: the VALUE of a SET of one; else DEFAULT");
        String[] letters = {"letter 1 0 1 0:0", "letter 1 0 1 1:0", "letter 1 0 1 2:0", "letter 1 0 1 3:0"};
        for (int set = 0; set < 16; set++) {
            StringBuilder text = new StringBuilder("play 3;liar 0;default 2");
            for (int v = 0; v < 4; v++) {
                text.append((set >> v & 1) != 0 ? ";" + letters[v] : "");
            }
            MarkedChains x = Check.of(text.toString());
            e.due("set(1, 1)", x.set(1, 1), set);
            boolean one = set == 1 || set == 2 || set == 4 || set == 8;
            int value = set == 1 ? 0 : set == 2 ? 1 : set == 4 ? 2 : 3;
            e.due("of set " + set, x.decision(1), one ? value : 2);
        }
        MarkedChains x = Check.of("play 5;liar 0 3 4;rounds 2;default 3;letter 1 0 1 1:0;letter 2 3 1 2:0 3");
        e.due("behind the last round, not ahead of it", x.decision(1), 3);
        x.settle(2, 1);
        e.due("of one round", x.decision(1), 1);
    }

    private void sound() {
        e.says(0, "SOUND PARTIES: honest ones that are FROM or TO of no OMIT and no LATE");
        for (int p = 0; p < 8; p++) {
            int other = (p + 3) % 8;
            int left = 255 & ~(1 << p) & ~(1 << other);
            e.due("omit", Check.of("play 8;omit 1 " + p + " " + other).sound(), left);
            e.due("late", Check.of("play 8;late 1 " + p + " " + other + " 1").sound(), left);
            e.due("of any round", Check.of("play 8;omit 8 " + p + " " + other).sound(), left);
            e.due("of any round", Check.of("play 8;late 8 " + p + " " + other + " 7").sound(), left);
            e.due("liar", Check.of("play 8;liar " + p).sound(), 255 & ~(1 << p));
            e.due("with a liar", Check.of("play 8;liar " + p + ";omit 1 " + p + " " + other).sound(), left);
        }
        e.due("all", Check.of("play 8").sound(), 255);
        e.due("none", Check.of("play 4;omit 1 0 1;late 1 2 3 1").sound(), 0);
        e.due("of two omits", Check.of("play 8;omit 1 0 1;omit 1 2 3").sound(), 0xf0);
        e.due("of two lates", Check.of("play 8;late 1 0 1 1;late 1 2 3 1").sound(), 0xf0);
        MarkedChains x = Check.of("play 4;omit 1 0 1");
        x.drop(1, 0);
        e.due("again, as it goes", x.sound(), 15);
    }

    /** A PLAY that is changed is played as if it had been told so. */
    private void playedAnew() {
        e.says(0, "The SET of an honest SENDER has its VALUE ahead of all ROUNDS, of others nothing: of the PLAY as it is");
        MarkedChains x = Check.of("play 4;value 3;rounds 2");
        e.due("2 took it of 0", x.path(2, 3, -1), 1);
        x.settle(0, 2);
        e.due("2 has it as sender", x.path(2, 3, -1), 0);
        e.due("of a letter without marks", x.extracted(2, 3, 2), 0);
        e.due("of none", x.extracted(2, 3, 1), -1);
        e.due("0 has nothing ahead", x.set(0, 0), 0);
        e.due("0 takes it in round 1", x.extracted(0, 3, 0), 1);
        e.due("0 to 1 was extracted, 2 to 0 is", x.letter(0, 6), 2);
        x.lies(0);
        e.due("to a liar", x.letter(0, 6), 0);
        x.settle(1, 0);
        e.due("another value", x.set(2, 0), 1);
        e.due("the one before it is gone", x.extracted(2, 3, 0), -2);
        x.lies(2);
        e.due("no letters", x.letter(-1, 0), 0);
        e.due("nothing", x.set(1, 2), 0);
        e.due("nothing", x.extracted(3, 0, 0), -2);
        e.due("not known", x.known(1, 0), -2);
        e.due("not forged", x.forged(0), 0);
        x = Check.of("play 3;rounds 2;liar 0;letter 2 0 1 1:0;letter 2 0 1 2:0");
        e.due("two with too few marks", x.count(13), 2);
        e.due("two values", x.caught(1), 2);
        x.drop(0, 1);
        e.due("one", x.count(13), 1);
        e.due("one value", x.caught(1), -2);
    }

    /** As many LETTERS as there can be: seven honest ones relay four VALUES each, and 16 are PLANNED. */
    private void fullest() {
        e.says(0, "Sent: as many as there can be");
        StringBuilder text = new StringBuilder("play8;liar0;cut4;rounds8");
        for (int i = 0; i < 16; i++) {
            text.append(";letter1 0 1 ").append(i % 4).append(":0");
        }
        MarkedChains x = Check.of(text.toString());
        e.due("sent(1)", x.sent(1), 16);
        e.due("sent(2)", x.sent(2), 4 * 7);
        e.due("sent(3)", x.sent(3), 6 * 4 * 7);
        e.due("sent(4)", x.sent(4), 0);
        e.due("in all", x.letter(-1, 0), 212);
        e.letter(x, 211, 3, 7, 6, 3, 3, 3, 1);
        e.due("its marks", x.mark(211, 0) * 100 + x.mark(211, 1) * 10 + x.mark(211, 2), 17);
        e.due("packed(211)", x.packed(211), 3 + 4 * (1 + 9 * (2 + 9 * 8)));
        e.due("letter(212, 0)", x.letter(212, 0), -1);
        e.due("mark(212, 0)", x.mark(212, 0), -1);
        e.due("packed(212)", x.packed(212), -1);
        e.due("bits(3)", x.bits(3), 168 * 14);
        e.due("load(0, 1)", x.load(0, 1), 16);
        e.due("load(7, 6)", x.load(7, 6), 4);
        for (int p = 1; p < 8; p++) {
            e.due("all values", x.set(p, 8), 15);
            e.due("the sender's mark on two values", x.caught(p), p == 1 ? 1 : 2);
        }
        e.due("too few marks", x.count(13), 0);
        e.due("all decide the default as they would of nothing", x.crucial(1, -1), 0);
        e.due("the most of any two", x.load(-1, 0), 16);
        e.due("of the greatest", x.bits(-1), 14);
        x.lies(0);
        e.due("0 is honest: its own value, and what seven relay of it", x.letter(-1, 0), 7 + 49);
        e.due("nothing is left of the letters behind these", x.count(13), 0);
        e.due("nor of their values", x.caught(1), -2);
    }
}
