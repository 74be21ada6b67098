/** Boundary cases of the sizes of a PLAY, of the TAPE, the TEXT and its FAULT: Terms I, promises 1 to 4. */
final class EdgesOfText {
    private static final int MOST = 400;

    private final Edges e;

    private EdgesOfText(Edges e) {
        this.e = e;
    }

    static void run(Edges e) {
        EdgesOfText t = new EdgesOfText(e);
        t.newObject();
        t.sizesOfParties();
        t.sizesOfSettings();
        t.settingsTold();
        t.liars();
        t.plannedLetters();
        t.marks();
        t.faults();
        t.waysThatAreUnlike();
        t.wordsAndNumbers();
        t.everyByte();
        t.textEnds();
        t.wrongNumbers();
        t.tooMany();
        t.twice();
        t.firstPlace();
        t.longest();
        t.feed();
        t.feedFull();
        t.end();
        t.tell();
        t.tellFault();
    }

    private void newObject() {
        e.says(1, "No PLAY");
        MarkedChains x = new MarkedChains();
        e.counts(x, 0, 0, 0, 0, 1, 0, 2, 0, 0, 0, 0, 0, 0, 0, 0);
        e.due("letter(-1, 0)", x.letter(-1, 0), -1);
        e.due("tell()", x.tell(), -3);
        e.due("undo()", x.undo(), -1);
        e.due("back(0)", x.back(0), -2);
        e.due("back(1)", x.back(1), -2);
        e.says(0, "NONE = -1");
        e.due("NONE", MarkedChains.NONE, -1);
    }

    private void sizesOfParties() {
        e.says(0, "PARTIES 0, 1, .. (3 to 8; none at first)");
        e.due("none at first", new MarkedChains().count(0), 0);
        for (int n = 3; n <= 8; n++) {
            e.told("play " + n, n);
            MarkedChains x = Check.of("play " + n);
            e.due("the last party", x.decision(n - 1), 0);
            e.due("the one behind it", x.decision(n), -1);
            e.due("all are sound", x.sound(), (1 << n) - 1);
        }
        int[] none = {0, 1, 2, 9, 10, 11, 13, 18, 83, 259, 260};
        for (int n : none) {
            e.fault("play " + n, 5, 2);
        }
    }

    private void setting(String name, int what, int least, int most) {
        int place = 7 + name.length() + 1;
        for (int v = least; v <= most; v++) {
            e.due(name + " " + v, Check.of("play 3;" + name + " " + v).count(what), v);
        }
        if (least > 0) {
            e.fault("play 3;" + name + " " + (least - 1), place, 2);
        }
        e.fault("play 3;" + name + " " + (most + 1), place, 2);
        e.fault("play 3;" + name + " 1" + most, place, 2);
        e.fault("play 3;" + name + " 4294967297", place, 2);
        e.fault("play 3;" + name + " -1", place, 1);
        e.fault("play 3;" + name, place - 1, 1);
    }

    private void sizesOfSettings() {
        e.says(0, "the SENDER (a PARTY)");
        setting("sender", 1, 0, 2);
        for (int n = 3; n <= 8; n++) {
            e.due("the last party", Check.of("play " + n + ";sender " + (n - 1)).count(1), n - 1);
            e.fault("play " + n + ";sender " + n, 14, 2);
        }
        e.says(0, "its VALUE (0 to 3)");
        setting("value", 2, 0, 3);
        e.says(0, "ROUNDS (1 to 8)");
        setting("rounds", 3, 1, 8);
        e.says(0, "DEFAULT (0 to 3)");
        setting("default", 4, 0, 3);
        e.says(0, "CUT (1 to 4)");
        setting("cut", 5, 1, 4);
    }

    private void settingsTold() {
        e.says(0, "(without a PLAY 0, 0, 1, 0, 2)");
        e.counts(new MarkedChains(), 1, 0, 0, 1, 0, 2);
        MarkedChains x = new MarkedChains();
        x.keep(0);
        Check.tell(x, "play 4;sender 3;value 3;rounds 8;default 3;cut 4");
        e.counts(x, 1, 3, 3, 8, 3, 4);
        x.back(0);
        e.counts(x, 1, 0, 0, 1, 0, 2);
        e.says(0, "of each the last one told; 0, 0, 1, 0, 2 without");
        e.counts(Check.of("play 8"), 1, 0, 0, 1, 0, 2);
        e.counts(Check.of("play 8;sender 7;value 3;rounds 8;default 3;cut 4;sender 6;value 2;rounds 7;default 1;cut 1"),
                1, 6, 2, 7, 1, 1);
        e.counts(Check.of("play 8;cut 4;cut 3;cut 2;cut 1;cut 4;sender 7;sender 0"), 1, 0, 0, 1, 0, 4);
        x = Check.of("play 8;sender 7;value 3;rounds 8;default 3;cut 4");
        Check.tell(x, "play 3");
        e.counts(x, 1, 0, 0, 1, 0, 2);
    }

    private void liars() {
        e.says(0, "liar NUMBER { NUMBER } (LIARS; one may be told again)");
        e.due("none", Check.of("play 8").count(6), 0);
        e.due("one", Check.of("play 8;liar 7").count(6), 128);
        e.due("all", Check.of("play 8;liar 0 1 2 3 4 5 6 7").count(6), 255);
        e.due("again in one row", Check.of("play 8;liar 5 5 5").count(6), 32);
        e.due("again in another row", Check.of("play 8;liar 5;liar 1 5").count(6), 34);
        e.due("another one in another row", Check.of("play 8;liar 5;liar 1").count(6), 34);
        e.due("more than eight told", Check.of("play 3;liar 0 1 2 0 1 2 0 1 2 0").count(6), 7);
        e.fault("play 3;liar", 11, 1);
        e.fault("play 3;liar;", 11, 1);
        e.fault("play 3;liar 3", 12, 2);
        e.fault("play 3;liar 2 1 0 3", 18, 2);
        e.fault("play 8;liar 8", 12, 2);
    }

    private void plannedLetters() {
        e.says(0, "PLANNED LETTERS (16 at most) of LIARS: ROUND, FROM, TO (another one), VALUE, MARKS");
        MarkedChains x = Check.of(Edges.many("play 3", 16, "letter 1 0 1 0:0"));
        e.counts(x, 7, 16, 0, 0, 0);
        e.plan(x, 15, 1, 0, 1, 0, 1);
        e.due("a 17th", x.planned(16, 0), -1);
        e.due("none", Check.of("play 3").count(7), 0);
        x = Check.of("play 8;letter 1 0 7 0:0;letter 8 7 0 3:7");
        e.plan(x, 0, 1, 0, 7, 0, 1);
        e.plan(x, 1, 8, 7, 0, 3, 8);
        e.fault("play 8;letter 0 0 7 0:0", 14, 2);
        e.fault("play 8;letter 9 0 7 0:0", 14, 2);
        e.fault("play 8;letter 1 8 7 0:0", 16, 2);
        e.fault("play 8;letter 1 0 8 0:0", 18, 2);
        e.fault("play 8;letter 1 0 0 0:0", 18, 2);
        e.fault("play 8;letter 1 0 7 4:0", 20, 2);
        e.says(0, "letter NUMBER NUMBER NUMBER NUMBER : NUMBER { NUMBER }");
        e.fault("play 8;letter", 13, 1);
        e.fault("play 8;letter 1 0 7 0", 21, 1);
        e.fault("play 8;letter 1 0 7 0 0:0", 22, 1);
        e.fault("play 8;letter 1 0 7:0", 19, 1);
        e.fault("play 8;letter 1 0 7 0::0", 22, 1);
        e.fault("play 8;letter 1 0 7 0;0", 21, 1);
        e.fault("play 8;letter:1 0 7 0:0", 13, 1);
        e.fault("play 8;letter 1 0 7 0:0:", 23, 1);
    }

    private void marks() {
        e.says(0, "MARKS: a row of 1 to 8 unlike PARTIES");
        e.plan(Check.of("play 3;letter 1 0 1 0:2"), 0, 1, 0, 1, 0, 3);
        e.plan(Check.of("play 8;letter 1 0 1 0:7 6 5 4 3 2 1 0"), 0, 1, 0, 1, 0, 87654321);
        e.plan(Check.of("play 3;letter 1 0 1 0:2 0 1"), 0, 1, 0, 1, 0, 312);
        e.fault("play 3;letter 1 0 1 0:", 22, 1);
        e.fault("play 3;letter 1 0 1 0: ;cut 1", 23, 1);
        e.fault("play 3;letter 1 0 1 0:0 1 2 3", 28, 2);
        e.fault("play 8;letter 1 0 1 0:7 6 5 4 3 2 1 0 8", 38, 2);
        for (int again = 0; again < 8; again++) {
            e.fault("play 8;letter 1 0 1 0:7 6 5 4 3 2 1 0 " + again, 38, 2);
        }
        e.says(0, "a MARK that was told in that LETTER");
        e.fault("play 8;letter 1 0 1 0:0 0", 24, 2);
        e.fault("play 8;letter 1 0 1 0:7 7", 24, 2);
        e.fault("play 8;letter 1 0 1 0:7 1 0 7", 28, 2);
        e.fault("play 8;letter 1 0 1 0:1 01", 24, 2);
        e.told("play 8;letter 1 0 1 0:7;letter 1 0 1 0:7;letter 1 0 1 0:0 7", 8);
    }

    private void faults() {
        e.says(0, "OMITS (12 at most): ROUND, FROM, TO");
        e.due("none", Check.of("play 3").count(8), 0);
        MarkedChains x = Check.of(Edges.many("play 3", 12, "omit #"));
        e.counts(x, 7, 0, 12, 0);
        e.way(x, 1, 11, 4, 1, 2);
        x = Check.of("play 8;omit 1 0 7;omit 8 7 0");
        e.way(x, 1, 0, 1, 0, 7);
        e.way(x, 1, 1, 8, 7, 0);
        e.fault("play 8;omit 0 0 7", 12, 2);
        e.fault("play 8;omit 9 0 7", 12, 2);
        e.fault("play 8;omit 1 8 7", 14, 2);
        e.fault("play 8;omit 1 0 8", 16, 2);
        e.fault("play 8;omit 1 7 7", 16, 2);
        e.fault("play 8;omit 1 0 7 1", 18, 1);
        e.says(0, "LATES (12 at most): likewise, and by how many ROUNDS (1 to 7)");
        e.due("none", Check.of("play 3").count(9), 0);
        x = Check.of(Edges.many("play 3", 12, "late # 7"));
        e.counts(x, 7, 0, 0, 12);
        e.way(x, 2, 11, 4, 1, 2, 7);
        x = Check.of("play 8;late 1 0 7 1;late 8 7 0 7");
        e.way(x, 2, 0, 1, 0, 7, 1);
        e.way(x, 2, 1, 8, 7, 0, 7);
        e.fault("play 8;late 0 0 7 1", 12, 2);
        e.fault("play 8;late 9 0 7 1", 12, 2);
        e.fault("play 8;late 1 8 7 1", 14, 2);
        e.fault("play 8;late 1 0 8 1", 16, 2);
        e.fault("play 8;late 1 7 7 1", 16, 2);
        e.fault("play 8;late 1 0 7 0", 18, 2);
        e.fault("play 8;late 1 0 7 8", 18, 2);
        e.fault("play 8;late 1 0 7 1 1", 20, 1);
        e.says(0, "OMITS (12 at most) .. LATES (12 at most): of both 12");
        e.counts(Check.of(Edges.many(Edges.many("play3", 12, "omit#"), 12, "late# 1")), 7, 0, 12, 12);
        x = Check.of(Edges.many(Edges.many("play3", 16, "letter1 0 1 0:0"), 12, "omit#"));
        e.counts(x, 7, 16, 12, 0);
    }

    private void waysThatAreUnlike() {
        e.says(0, "no two OMITS, no two LATES of one ROUND, FROM, TO");
        e.due("one number is another", Check.of("play 3;omit 1 0 1;omit 2 0 1;omit 1 2 1;omit 1 0 2;omit 1 1 0").count(8), 5);
        e.due("one number is another",
                Check.of("play 3;late 1 0 1 1;late 2 0 1 1;late 1 2 1 1;late 1 0 2 1;late 1 1 0 1").count(9), 5);
        e.counts(Check.of("play 3;omit 1 0 1;late 1 0 1 1"), 8, 1, 1);
        e.counts(Check.of("play 3;late 1 0 1 1;omit 1 0 1"), 8, 1, 1);
        e.fault("play 3;omit 1 0 1;omit 1 0 1", 27, 4);
        e.fault("play 3;late 1 0 1 1;late 1 0 1 2", 29, 4);
    }

    private void wordsAndNumbers() {
        e.says(0, "WORDS are small letters, NUMBERS digits, as far as they go on; blanks (32) stand between as one likes");
        e.told("play3", 3);
        e.told(" play 3", 3);
        e.told("play 3 ", 3);
        e.told("   play   3   ;   cut   4   ", 3);
        e.told("play3;cut4;sender2;liar0 1;letter1 0 1 0:0 1;omit1 0 1;late1 0 1 1", 3);
        e.told("play 3;letter 1 0 1 0 : 0", 3);
        e.told("play 3;letter 1 0 1 0: 0", 3);
        e.told("play 0003;cut 004", 3);
        e.fault("pl ay 3", 0, 1);
        e.fault("play 3;cu t 1", 7, 1);
        e.fault("play 3;letters 1 0 1 0:0", 7, 1);
        e.fault("play 3;lettercut 1", 7, 1);
        e.fault("play 3;omits 1 0 1", 7, 1);
        e.fault("play 3;latex 1 0 1 1", 7, 1);
        e.fault("play 3;latr 1 0 1 1", 7, 1);
        e.fault("play 3;sendes 1", 7, 1);
        e.fault("play 3;cuts 1", 7, 1);
        String[] words = {"sender 1", "value 1", "rounds 1", "default 1", "cut 1", "liar 1", "letter 1 0 1 0:0",
            "omit 1 0 1", "late 1 0 1 1"};
        for (String word : words) {
            e.told("play 3;" + word, 3);
            e.fault("play 3;x" + word.substring(1), 7, 1);
            e.fault("play 3;x" + word, 7, 1);
            e.fault("play 3;" + word.substring(1), 7, 1);
        }
        e.fault("qlay 3", 0, 1);
        e.fault("plax 3", 0, 1);
        e.fault("play 3 0", 7, 1);
        e.fault("play 30", 5, 2);
        e.fault("play 3;letter 1 0 1 0:01 2 1", 27, 2);
        e.fault("play 3;letter 1 0 1 0:12", 22, 2);
        e.fault("play 3;omit 101", 12, 2);
    }

    private static boolean isDigit(int b) {
        return b >= '0' && b <= '9';
    }

    private static boolean isSmall(int b) {
        return b >= 'a' && b <= 'z';
    }

    /** A place that takes no byte but some: each of the 256 there. */
    private void everyByte() {
        e.says(0, "1 a byte or WORD that cannot stand there");
        for (int b = 0; b < 256; b++) {
            atTheFront((char) b);
            behindTheWord((char) b);
            behindTheNumber((char) b);
            behindTheSign((char) b);
            insideARow((char) b);
        }
    }

    private void atTheFront(char b) {
        if (b == ' ') {
            e.told(b + "play 3", 3);
        } else {
            e.fault(b + "play 3", 0, 1);
        }
    }

    private void behindTheWord(char b) {
        String text = "play" + b + "3";
        if (b == ' ' || b == '0') {
            e.told(text, 3);
        } else if (isDigit(b)) {
            e.fault(text, 4, 2);
        } else {
            e.fault(text, isSmall(b) ? 0 : 4, 1);
        }
    }

    private void behindTheNumber(char b) {
        String text = "play 3" + b;
        if (b == ' ') {
            e.told(text, 3);
        } else if (isDigit(b)) {
            e.fault(text, 5, 2);
        } else {
            e.fault(text, b == ';' ? 7 : 6, 1);
        }
    }

    private void behindTheSign(char b) {
        String text = "play 3;" + b + "cut 1";
        if (b == ' ') {
            e.told(text, 3);
        } else {
            e.fault(text, 7, 1);
        }
    }

    private void insideARow(char b) {
        String text = "play 3;liar 0" + b + "1";
        if (b == ' ' || b == '0') {
            e.told(text, 3);
        } else if (isDigit(b)) {
            e.fault(text, 12, 2);
        } else {
            e.fault(text, b == ';' ? 14 : 13, 1);
        }
    }

    private void textEnds() {
        e.says(0, "or the text ends (the place behind its last byte)");
        e.fault("", 0, 1);
        e.fault(" ", 1, 1);
        e.fault("play", 4, 1);
        e.fault("play ", 5, 1);
        e.fault("play 3;", 7, 1);
        e.fault("play 3;  ", 9, 1);
        String text = "play 3;late 1 0 2 7";
        int[] places = {0, 0, 0, 0, 4, 5, -1, 7, 7, 7, 7, 11, 12, 13, 14, 15, 16, 17, 18, -1};
        e.due("as many as the text has", places.length, text.length() + 1);
        ends(text, places);
        text = "play 3;letter 1 0 2 3:0 1";
        ends(text, 0, 0, 0, 0, 4, 5, -1, 7, 7, 7, 7, 7, 7, 13, 14, 15, 16, 17, 18, 19, 20, 21, 22, -1, -1, -1);
        ends("play 3;liar 0", 0, 0, 0, 0, 4, 5, -1, 7, 7, 7, 7, 11, 12, -1);
        ends("play 3;omit 8 2 1", 0, 0, 0, 0, 4, 5, -1, 7, 7, 7, 7, 11, 12, 13, 14, 15, 16, -1);
        ends("play 3;sender 2", 0, 0, 0, 0, 4, 5, -1, 7, 7, 7, 7, 7, 7, 13, 14, -1);
        ends("play 3;value 2", 0, 0, 0, 0, 4, 5, -1, 7, 7, 7, 7, 7, 12, 13, -1);
        ends("play 3;cut 2 ", 0, 0, 0, 0, 4, 5, -1, 7, 7, 7, 10, 11, -1, -1);
    }

    /** The first n bytes of a text, for each n: where the fault is, -1 where there is none. */
    private void ends(String text, int... places) {
        for (int n = 0; n <= text.length(); n++) {
            String first = text.substring(0, n);
            if (places[n] < 0) {
                e.told(first, 3);
            } else {
                e.fault(first, places[n], 1);
            }
        }
    }

    private void wrongNumbers() {
        e.says(0, "2 a NUMBER (where it begins) that is not as told: no such size, PARTY");
        e.fault("play    9", 8, 2);
        e.fault("play 0009", 5, 2);
        e.fault("play 4294967299", 5, 2);
        e.fault("play 18446744073709551619", 5, 2);
        e.fault("play 2147483648", 5, 2);
        e.fault("play 3;omit   10 0 1", 14, 2);
        e.fault("play 3;late 1 0 1   10", 20, 2);
        e.fault("play 3;liar 256", 12, 2);
        e.fault("play 3;liar 100", 12, 2);
        e.fault("play 3;liar 4294967296", 12, 2);
        e.fault("play 3;letter 1 0 1 0:0 4294967297", 24, 2);
        e.says(0, "TO that is FROM");
        for (int p = 0; p < 3; p++) {
            e.fault("play 3;letter 1 " + p + " " + p + " 0:0", 18, 2);
            e.fault("play 3;omit 1 " + p + " " + p, 16, 2);
            e.fault("play 3;late 1 " + p + " " + p + " 1", 16, 2);
        }
        e.fault("play 3;omit 1 2   02", 18, 2);
        e.told("play 3;omit 1 1 0;omit 2 2 1", 3);
    }

    private void tooMany() {
        e.says(0, "3 the WORD of a 17th letter");
        String letters = Edges.many("play 3", 16, "letter 1 0 1 0:0");
        e.told(letters, 3);
        e.told(letters + ";omit 1 0 1;late 1 0 1 1;cut 1", 3);
        e.fault(letters + ";letter 1 0 1 0:0", 279, 3);
        e.fault(letters + ";letter", 279, 3);
        e.fault(letters + ";   letter 9", 282, 3);
        e.fault(letters + ";lette", 279, 1);
        e.says(0, "3 the WORD of .. a 13th omit");
        String omits = Edges.many("play 3", 12, "omit #");
        e.told(omits, 3);
        e.told(omits + ";late 1 0 1 1;letter 1 0 1 0:0", 3);
        e.fault(omits + ";omit 8 1 2", 139, 3);
        e.fault(omits + ";omit 1 0 2", 139, 3);
        e.fault(omits + ";omit", 139, 3);
        e.fault(omits + ";omits", 139, 1);
        e.says(0, "3 the WORD of .. a 13th late");
        String lates = Edges.many("play 3", 12, "late # 1");
        e.told(lates, 3);
        e.told(lates + ";omit 1 0 1;letter 1 0 1 0:0", 3);
        e.fault(lates + ";late 8 1 2 1", 163, 3);
        e.fault(lates + ";late 1 0 2 1", 163, 3);
        e.fault(lates + ";late", 163, 3);
        e.fault(lates + ";lat", 163, 1);
    }

    private void twice() {
        e.says(0, "4 the last NUMBER of an omit, the TO of a late, if there is one of that ROUND, FROM, TO already");
        e.fault("play 3;omit 8 2 1;omit 1 0 2;omit 8 2   001", 40, 4);
        e.fault("play 3;omit 8 2 1;omit 8 2 1 1", 27, 4);
        e.fault("play 3;late 8 2 1 7;omit 8 2 1;late 8 2 1 7", 40, 4);
        e.fault("play 3;late 8 2 1 7;late 8 2 1", 29, 4);
        e.fault("play 3;late 8 2 1 7;late 8 2 1 0", 29, 4);
        e.fault("play 3;late 8 2 1 7;late 8 2 1;", 29, 4);
        e.fault(Edges.many("play 3", 11, "omit #") + ";omit 1 0 2", 6 + 11 * 11 + 10, 4);
        e.fault(Edges.many("play 3", 11, "late # 1") + ";late 3 1 2 1", 6 + 11 * 13 + 10, 4);
    }

    private void firstPlace() {
        e.says(0, "of the first place along it that is wrong (0 the first byte)");
        e.fault("x", 0, 1);
        e.fault("play 9;x", 5, 2);
        e.fault("play 3;x;cut 9", 7, 1);
        e.fault("play 3;cut 9;x", 11, 2);
        e.fault("play 3;letter 9 9 9 9:9", 14, 2);
        e.fault("play 3;letter 1 9 9 9:9", 16, 2);
        e.fault("play 3;letter 1 0 9 9:9", 18, 2);
        e.fault("play 3;letter 1 0 0 9:9", 18, 2);
        e.fault("play 3;letter 1 0 1 9:9", 20, 2);
        e.fault("play 3;letter 1 0 1 0;9", 21, 1);
        e.fault("play 3;letter 1 0 1 0:9 9", 22, 2);
        e.fault("play 3;letter 1 0 1 0:0 9 0", 24, 2);
        e.fault("play 3;late 1 0 0 0", 16, 2);
        e.fault("play 3;omit 1 0 1;omit 1 0 1;cut 9", 27, 4);
        e.fault("play 3;sender 9;sender 1", 14, 2);
        e.fault("play 3;sender 2;play 8", 16, 1);
        e.says(0, "Of one place the least");
        e.fault("play 3;omit 1 1 1;omit 1 1 1", 16, 2);
        e.fault("play 3;omit 1 0 1;omit 1 0 9", 27, 2);
        e.fault("play 3;letter 1 0 1 0:0 0 0", 24, 2);
        e.fault("play 3 9", 7, 1);
    }

    private static String filled(String front, String back) {
        return front + " ".repeat(MOST - front.length() - back.length()) + back;
    }

    private void longest() {
        e.says(0, "A TEXT of at most 400 bytes tells it");
        e.told(filled("play 3", ""), 3);
        e.told(filled("", "play 8"), 8);
        e.told(filled("play 3;cut", "4"), 3);
        e.told("play " + "0".repeat(MOST - 6) + "3", 3);
        e.told(filled("play 3;liar", "1 2"), 3);
        e.fault("play 1" + "0".repeat(MOST - 6), 5, 2);
        e.fault("p".repeat(MOST), 0, 1);
        e.fault("1".repeat(MOST), 0, 1);
        e.fault(";".repeat(MOST), 0, 1);
        e.fault(filled("", ""), 400, 1);
        e.fault(filled("play", ""), 400, 1);
        e.fault(filled("play 3", ";"), 400, 1);
        e.fault(filled("play 3", "3"), 399, 1);
        e.fault(filled("play 3;cut", "5"), 399, 2);
        e.fault(filled("play 3;cut", ""), 400, 1);
        e.fault(filled("play 3;letter 1 0 1", "0"), 400, 1);
        e.fault(filled("play 3;letter 1 0 1 0", ":"), 400, 1);
        e.fault(filled("play 3;late 1 0", "1"), 400, 1);
        e.fault(filled("play 3;", "c"), 399, 1);
        e.fault(filled("play 3;letter 1 0 1 0:0", "0"), 399, 2);
        e.told("play 3;liar 0 " + "1 ".repeat(193), 3);
        e.told("play 3  " + ";cut 4  ".repeat(49), 3);
        e.fault("play 3  " + ";cut 4  ".repeat(48) + ";cut 4;;", 399, 1);
    }

    private void feed() {
        e.says(2, "Twenty bytes come behind the TAPE, of each number the highest first: how many it has");
        MarkedChains x = new MarkedChains();
        // "play", " 5;l", "iar ", "4 ;c", "ut 3"
        e.due("feed", x.feed(0x706c6179, 0x20353b6c, 0x69617220, 0x34203b63, 0x75742033), 20);
        // " ;se", "nder", " 2;v", "alue", "   3"
        e.due("feed", x.feed(0x203b7365, 0x6e646572, 0x20323b76, 0x616c7565, 0x20202033), 40);
        e.due("bytes", x.count(11), 40);
        e.due("tell", x.tell(), 5);
        e.counts(x, 0, 5, 2, 3, 1, 0, 3, 16);
        x = new MarkedChains();
        e.due("feed", x.feed(-1, Edges.MIN, Edges.MAX, 0, -256), 20);
        e.due("a byte of 255", x.tell(), -2 - 1);
        // A high bit in one byte does not reach into those beside it: "play", then 128 and blanks.
        e.due("feed", x.feed(0x706c6179, 0x80333333, 0x20202020, 0x20202020, 0x20202020), 20);
        e.due("a byte of 128", x.tell(), -2 - 33);
        e.due("feed", x.feed(0x706c6179, 0x203380ff, 0x20202020, 0x20202020, 0x20202020), 20);
        e.due("the second 128", x.tell(), -2 - 49);
        // Behind what end() left, not behind what was there.
        Check.put(x, "play 3;cut 4");
        e.due("end", x.end(7), 7);
        e.due("feed of 'value 3   '", x.feed(0x76616c75, 0x65203320, 0x20202020, 0x20202020, 0x20202020), 27);
        e.due("tell", x.tell(), 3);
        e.counts(x, 1, 0, 3, 1, 0, 2);
    }

    private static MarkedChains withBytes(int n) {
        MarkedChains x = Check.of("play 4;liar 2");
        x.lies(1);
        x.keep(1);
        for (int bytes = 0; bytes < n; bytes += 20) {
            x.feed(0x20202020, 0x20202020, 0x20202020, 0x20202020, 0x20202020);
        }
        x.end(n);
        return x;
    }

    private void feedFull() {
        e.says(2, "NONE, and none comes, if it would have more than 400");
        for (int i = 1; i <= 20; i++) {
            e.due("feed " + i, withBytes(20 * (i - 1)).feed(0, 0, 0, 0, 0), 20 * i);
        }
        e.due("the last that comes whole", withBytes(380).feed(0, 0, 0, 0, 0), 400);
        e.due("one less", withBytes(379).feed(0, 0, 0, 0, 0), 399);
        for (int n = 381; n <= 400; n++) {
            int bytes = n;
            e.refused("feed behind " + n, () -> withBytes(bytes), x -> x.feed(0x706c6179, 1, 2, 3, 4), -1);
        }
    }

    private void end() {
        e.says(3, "The TAPE has its first n bytes alone: n");
        MarkedChains x = new MarkedChains();
        e.due("end(0) of none", x.end(0), 0);
        Check.put(x, "play 3;cut 4");
        e.due("all", x.end(12), 12);
        e.due("one less", x.end(11), 11);
        e.due("it has so many", x.count(11), 11);
        e.due("the last one is gone", x.end(12), -1);
        e.due("first six", x.end(6), 6);
        e.due("tell", x.tell(), 3);
        e.due("cut as without", x.count(5), 2);
        Check.put(x, "play 3;cut 4");
        e.due("none", x.end(0), 0);
        e.due("tell", x.tell(), -3);
        e.due("of 400", withBytes(400).end(400), 400);
        e.due("of 400", withBytes(400).end(399), 399);
        e.says(3, "The TAPE has its first n bytes alone: those behind them are no part of the text");
        String text = "play 4;cut 3;letter 1 3 0 1:3 2;omit 1 0 1;late 2 0 1 1;liar 2 3";
        for (int n = 0; n <= text.length(); n++) {
            MarkedChains whole = new MarkedChains();
            Check.put(whole, text);
            whole.end(n);
            e.due("the first " + n, whole.tell(), Check.tell(new MarkedChains(), text.substring(0, n)));
        }
        Check.put(x, "play 3;letter 1 0 1 0:0");
        x.end(21);
        e.due("the sign that was there", x.tell(), -2 - (8 * 21 + 1));
        Check.put(x, "play 3;cut 4");
        x.end(6);
        e.due("the part that was there", x.tell(), 3);
        e.due("is not told", x.count(5), 2);
        e.says(3, "NONE, and nothing happens, if it has not so many, or n is below 0");
        int[] sizes = {0, 1, 20, 399, 400};
        for (int n : sizes) {
            int[] bad = {n + 1, n + 20, 401, -1, -2, Edges.MIN, Edges.MAX, -n - 1, n - 512, n + 65536};
            for (int b : bad) {
                e.refused("end(" + b + ") of " + n, () -> withBytes(n), x2 -> x2.end(b), -1);
            }
        }
        e.refused("end(1) of a new object", MarkedChains::new, x2 -> x2.end(1), -1);
        e.wraps("end", () -> withBytes(20), (x2, a) -> x2.end(a[0]), 20);
    }

    private void tell() {
        e.says(4, "The TAPE, which is empty then, tells a PLAY in place of the one there was");
        MarkedChains x = Check.of("play 8;sender 7;value 3;rounds 8;default 3;cut 4;liar 7;letter 1 7 0 1:7;omit 1 0 1;late 1 0 1 1");
        e.counts(x, 0, 8, 7, 3, 8, 3, 4, 128, 1, 1, 1, 0, 0, 0);
        e.due("tell", Check.tell(x, "play 3"), 3);
        e.counts(x, 0, 3, 0, 0, 1, 0, 2, 0, 0, 0, 0, 0, 0, 0);
        e.due("its letters", x.letter(-1, 0), 2);
        e.due("the tape is empty: nothing to tell", x.tell(), -3);
        String ways = "play 3;liar 1;letter 1 1 0 1:1;omit 1 0 1;omit 2 0 1;late 1 0 1 1;late 2 0 1 1";
        for (int times = 0; times < 3; times++) {
            e.due("the same once more", Check.tell(x, ways), 3);
            e.counts(x, 6, 2, 1, 2, 2);
        }
        e.due("with a fault at its end", Check.tell(x, ways + ";liar 2;cut 9"), -2 - (8 * (ways.length() + 12) + 2));
        e.due("nothing of that is left", Check.tell(x, "play 3;omit 2 0 1;late 2 0 1 1"), 3);
        e.counts(x, 6, 0, 0, 1, 1);
        e.due("nor of this", Check.tell(x, "play 3"), 3);
        e.counts(x, 0, 3, 0, 0, 1, 0, 2, 0, 0, 0, 0, 0, 0, 0);
        e.says(4, "(nothing can be UNDONE; SHELVES stay)");
        x = Check.of("play 4;liar 3;letter 1 3 0 1:3");
        x.keep(0);
        for (int i = 0; i < 12; i++) {
            x.lies(1);
        }
        e.due("acts", x.count(10), 10);
        e.due("tell", Check.tell(x, "play 5"), 5);
        e.due("acts", x.count(10), 0);
        e.due("undo", x.undo(), -1);
        e.due("parties", x.count(0), 5);
        e.due("shelves", x.count(12), 1);
        e.due("back(1)", x.back(1), -2);
        e.due("back(0)", x.back(0), 1);
        e.counts(x, 0, 4, 0, 0, 1, 0, 2, 8, 1);
    }

    private void tellFault() {
        e.says(4, "-2 - its FAULT, and but for the TAPE nothing happens");
        e.refused("tell of nothing", EdgesOfActs::emptyTape, x -> x.tell(), -2 - 1);
        e.refused("a fault 1", EdgesOfActs::emptyTape, x -> Check.tell(x, "play 4;x"), -2 - 57);
        e.refused("a fault 2", EdgesOfActs::emptyTape, x -> Check.tell(x, "play 4;liar 0;sender 2;cut 5"), -2 - (8 * 27 + 2));
        e.refused("a fault 3", EdgesOfActs::emptyTape,
                x -> Check.tell(x, Edges.many("play 3", 17, "letter 1 0 1 0:0")), -2 - (8 * 279 + 3));
        e.refused("a fault 4", EdgesOfActs::emptyTape, x -> Check.tell(x, "play 3;omit 1 0 1;omit 1 0 1"), -2 - (8 * 27 + 4));
        e.refused("a fault without a play", MarkedChains::new, x -> Check.tell(x, "play 9"), -2 - 42);
        MarkedChains x = EdgesOfActs.rich();
        x.feed(0, 0, 0, 0, 0);
        e.due("tell", x.tell(), -2 - (8 * 12 + 1));
        e.due("the tape is empty all the same", x.count(11), 0);
    }
}
