import java.util.ArrayList;
import java.util.List;
import java.util.Random;

/** Texts by the document's grammar, nearly all of them without a fault, and broken ones. */
final class RandomText {
    private final Random random;
    private final StringBuilder text = new StringBuilder();
    private int parties;
    private int sender = 0;
    private int round = 1;
    private int from = 0;
    private final List<Integer> liars = new ArrayList<>();

    RandomText(Random random) {
        this.random = random;
    }

    String make() {
        parties = random.nextInt(3) == 0 ? 3 + random.nextInt(6) : 3 + random.nextInt(3);
        word("play");
        number(parties);
        if (random.nextInt(4) > 0) {
            sender = random.nextInt(parties);
            part("sender");
            number(sender);
        }
        part("rounds");
        number(random.nextInt(5) == 0 ? 1 + random.nextInt(8) : 1 + random.nextInt(4));
        if (random.nextInt(3) > 0) {
            part("liar");
            number(random.nextInt(3) > 0 ? sender : random.nextInt(parties));
            for (int i = random.nextInt(3); i > 0; i--) {
                number(random.nextInt(parties));
            }
        }
        int parts = random.nextInt(8) == 0 ? 40 : random.nextInt(12);
        int only = random.nextInt(3) == 0 ? random.nextInt(7) : -1;
        for (int i = 0; i < parts && text.length() < 375; i++) {
            anyPart(only >= 0 && random.nextInt(6) > 0 ? only : random.nextInt(7));
        }
        blanks();
        return text.length() > 400 ? text.substring(0, 400) : text.toString();
    }

    /** A lying sender with helpers, whose letters mostly can be sent and count. */
    String makeCunning() {
        parties = 4 + random.nextInt(5);
        sender = random.nextInt(parties);
        word("play");
        number(parties);
        part("sender");
        number(sender);
        part("rounds");
        number(1 + random.nextInt(random.nextInt(3) == 0 ? 8 : 4));
        part("cut");
        number(1 + random.nextInt(4));
        part("default");
        number(random.nextInt(4));
        part("liar");
        liars.add(sender);
        number(sender);
        for (int i = random.nextInt(parties - 1); i > 0; i--) {
            liars.add(random.nextInt(parties));
            number(liars.get(liars.size() - 1));
        }
        for (int i = 1 + random.nextInt(14); i > 0 && text.length() < 375; i--) {
            anyPart(random.nextInt(5) == 0 ? random.nextInt(7) : 3);
        }
        return text.length() > 400 ? text.substring(0, 400) : text.toString();
    }

    static String broken(Random random, String text) {
        StringBuilder b = new StringBuilder(text);
        String signs = "0123456789;: abcdefghiklmnoprstuvxyzZ{`/" + (char) 0 + (char) 9 + (char) 200;
        for (int times = 1 + random.nextInt(2); times > 0; times--) {
            int at = random.nextInt(b.length());
            char sign = signs.charAt(random.nextInt(signs.length()));
            switch (random.nextInt(4)) {
                case 0:
                    b.setCharAt(at, sign);
                    break;
                case 1:
                    b.deleteCharAt(at);
                    break;
                case 2:
                    b.setLength(at);
                    break;
                default:
                    b.insert(at, sign);
                    break;
            }
            if (b.length() == 0) {
                break;
            }
        }
        return b.length() > 400 ? b.substring(0, 400) : b.toString();
    }

    private void anyPart(int kind) {
        switch (kind) {
            case 0:
                part("value");
                number(random.nextInt(4));
                break;
            case 1:
                part("default");
                number(random.nextInt(4));
                break;
            case 2:
                part("cut");
                number(1 + random.nextInt(4));
                break;
            case 3:
            case 4:
                part("letter");
                way(!liars.isEmpty());
                number(random.nextInt(4));
                blanks();
                text.append(':');
                marks();
                break;
            case 5:
                part("omit");
                way(false);
                break;
            default:
                part("late");
                way(false);
                number(1 + random.nextInt(random.nextInt(3) == 0 ? 7 : 2));
                break;
        }
    }

    private void way(boolean lied) {
        round = 1 + random.nextInt(random.nextInt(4) == 0 ? 8 : 3);
        from = random.nextInt(parties);
        if (lied && random.nextInt(20) > 0) {
            from = liars.get(random.nextInt(liars.size()));
        }
        int to = (from + 1 + random.nextInt(parties - 1)) % parties;
        number(round);
        number(from);
        number(random.nextInt(150) == 0 ? from : to);
    }

    private void marks() {
        boolean[] used = new boolean[8];
        int size = liars.isEmpty() ? 1 + random.nextInt(4) : round + random.nextInt(3);
        for (int i = 0; i < size; i++) {
            int party = i == 0 && random.nextInt(6) > 0 ? sender : random.nextInt(parties);
            if (!liars.isEmpty() && i > 0 && random.nextInt(4) > 0) {
                party = liars.get(random.nextInt(liars.size()));
            }
            if (i == 0 || !used[party]) {
                used[party] = true;
                number(party);
            }
        }
    }

    private void part(String name) {
        blanks();
        text.append(';');
        blanks();
        word(name);
    }

    private void word(String word) {
        blanks();
        text.append(word);
    }

    private void number(int number) {
        blanks();
        char last = text.charAt(text.length() - 1);
        if (last >= '0' && last <= '9') {
            text.append(' ');
        }
        text.append(random.nextInt(60) == 0 ? "00" : "").append(number);
    }

    private void blanks() {
        for (int i = random.nextInt(12); i > 10; i--) {
            text.append(' ');
        }
    }
}
