import java.util.ArrayList;
import java.util.List;

/** The document's TEXT, cut into words, numbers and signs first and understood afterwards. */
final class ModelText {
    static final class Fault extends Exception {
        private static final long serialVersionUID = 1L;
        final int code;

        Fault(int place, int kind) {
            code = 8 * place + kind;
        }
    }

    private static final class Token {
        final String text;
        final int place;

        Token(String text, int place) {
            this.text = text;
            this.place = place;
        }

        boolean isNumber() {
            return text.matches("[0-9]+");
        }
    }

    private final List<Token> tokens = new ArrayList<>();
    private int next = 0;
    private final Model.Play play = new Model.Play();

    ModelText(String text) {
        int at = 0;
        while (at < text.length()) {
            String kind = kindOf(text.charAt(at));
            int from = at;
            at++;
            if (kind.length() > 1) {
                while (at < text.length() && kindOf(text.charAt(at)).equals(kind)) {
                    at++;
                }
            }
            if (!kind.equals("blank")) {
                tokens.add(new Token(text.substring(from, at), from));
            }
        }
        tokens.add(new Token("", text.length()));
    }

    private static String kindOf(char c) {
        if (c >= 'a' && c <= 'z') {
            return "word";
        }
        if (c >= '0' && c <= '9') {
            return "number";
        }
        return c == ' ' ? "blank" : "s";
    }

    Model.Play read() throws Fault {
        sign("play");
        play.parties = number(3, 8);
        while (!tokens.get(next).text.isEmpty()) {
            sign(";");
            part();
        }
        return play;
    }

    private void sign(String text) throws Fault {
        if (!tokens.get(next).text.equals(text)) {
            throw new Fault(tokens.get(next).place, 1);
        }
        next++;
    }

    private int number(int least, int most) throws Fault {
        Token token = tokens.get(next);
        if (!token.isNumber()) {
            throw new Fault(token.place, 1);
        }
        java.math.BigInteger number = new java.math.BigInteger(token.text);
        if (number.bitLength() > 20 || number.intValue() < least || number.intValue() > most) {
            throw new Fault(token.place, 2);
        }
        next++;
        return number.intValue();
    }

    private int party() throws Fault {
        return number(0, play.parties - 1);
    }

    private void part() throws Fault {
        Token word = tokens.get(next);
        int setting = List.of("sender", "value", "rounds", "default", "cut").indexOf(word.text);
        next++;
        if (setting >= 0) {
            int[] least = {0, 0, 1, 0, 1};
            int[] most = {play.parties - 1, 3, 8, 3, 4};
            play.settings[setting] = number(least[setting], most[setting]);
        } else if (word.text.equals("liar")) {
            do {
                play.liars.add(party());
            } while (tokens.get(next).isNumber());
        } else if (word.text.equals("letter")) {
            letter(word);
        } else if (word.text.equals("omit")) {
            fault(word, play.omits, false);
        } else if (word.text.equals("late")) {
            fault(word, play.lates, true);
        } else {
            throw new Fault(word.place, 1);
        }
    }

    private int[] way() throws Fault {
        int round = number(1, 8);
        int from = party();
        int to = party();
        if (from == to) {
            throw new Fault(tokens.get(next - 1).place, 2);
        }
        return new int[] {round, from, to, 0};
    }

    private void letter(Token word) throws Fault {
        if (play.plans.size() == 16) {
            throw new Fault(word.place, 3);
        }
        int[] way = way();
        int value = number(0, 3);
        sign(":");
        List<Integer> marks = new ArrayList<>();
        do {
            int mark = party();
            if (marks.contains(mark)) {
                throw new Fault(tokens.get(next - 1).place, 2);
            }
            marks.add(mark);
        } while (tokens.get(next).isNumber());
        play.plans.add(Model.letter(way[0], way[1], way[2], value, marks));
    }

    private void fault(Token word, List<int[]> all, boolean late) throws Fault {
        if (all.size() == 12) {
            throw new Fault(word.place, 3);
        }
        int[] way = way();
        for (int[] f : all) {
            if (f[0] == way[0] && f[1] == way[1] && f[2] == way[2]) {
                throw new Fault(tokens.get(next - 1).place, 4);
            }
        }
        if (late) {
            way[3] = number(1, 7);
        }
        all.add(way);
    }
}
