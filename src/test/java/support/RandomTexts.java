import java.util.ArrayList;
import java.util.List;
import java.util.Random;

/** Makes texts of all kinds, right ones and wrong ones, always the same ones by a seed. */
final class RandomTexts {
    private static final String[] NAMES = {"a", "b", "rook", "queening", "x", "thin", "boards", "iff"};
    private static final String[] FACTS = {"think", "move", "time", "idle", "left", "sum"};
    private static final String[] ALL = {"board", "worth", "answer", "draw", "thinks", "step", "clock", "flag",
        "if", "then", "else", "think", "move", "time", "idle", "left", "sum", ";", "=", "+", "-", "*", "/", "<",
        "(", ")", "a", "rook", "0", "7", "12345", "toolongname", "?", "A", "9999", "\u00e9"};

    private final Random random;

    RandomTexts(Random random) {
        this.random = random;
    }

    private int below(int n) {
        return random.nextInt(n);
    }

    private boolean oneIn(int n) {
        return random.nextInt(n) == 0;
    }

    /** A text that most likely has no fault; few: one of which all can be tried out soon. */
    List<String> right(boolean few) {
        List<String> text = new ArrayList<>();
        int boards = few ? 1 + below(3) : oneIn(20) ? 0 : 1 + below(6);
        int most = few ? 1 + below(4) : 1 + below(9);
        for (int b = 0; b < boards; b++) {
            tell(text, "board", NAMES[b], "" + below(most + 1), "" + (oneIn(3) ? 0 : below(12)), ";");
            if (oneIn(3)) {
                law(text, b + 1);
            }
        }
        int laws = boards == 0 ? 0 : below(2 * boards + 2);
        for (int n = 0; n < laws; n++) {
            law(text, boards);
        }
        if (!oneIn(5)) {
            int thinks = below(few ? 3 : 5);
            text.add("thinks");
            for (int n = 0; n < thinks; n++) {
                text.add("" + (oneIn(10) ? below(61) : below(8)));
            }
            text.add(";");
        }
        if (oneIn(2)) {
            tell(text, "step", "" + below(10), ";");
        }
        if (!oneIn(4)) {
            tell(text, "clock", "" + (1 + below(oneIn(2) ? 30 : oneIn(2) ? 120 : 500)), ";");
        }
        if (oneIn(2)) {
            tell(text, "flag", "" + (oneIn(3) ? below(1000) : below(20)), ";");
        }
        return text;
    }

    private void tell(List<String> text, String... tokens) {
        text.addAll(List.of(tokens));
    }

    private void law(List<String> text, int boards) {
        tell(text, oneIn(2) ? "worth" : oneIn(2) ? "answer" : "draw", NAMES[below(boards)], "=");
        int ifs = oneIn(2) ? 0 : below(3);
        for (int n = 0; n < ifs; n++) {
            text.add("if");
            sum(text, 0);
            text.add("<");
            sum(text, 0);
            text.add("then");
            sum(text, 0);
            text.add("else");
        }
        sum(text, 0);
        text.add(";");
    }

    private void sum(List<String> text, int depth) {
        product(text, depth);
        while (oneIn(3)) {
            text.add(oneIn(2) ? "+" : "-");
            product(text, depth);
        }
    }

    private void product(List<String> text, int depth) {
        unit(text, depth);
        while (oneIn(4)) {
            text.add(oneIn(2) ? "*" : "/");
            unit(text, depth);
        }
    }

    private void unit(List<String> text, int depth) {
        if (depth < 6 && oneIn(6)) {
            text.add("(");
            sum(text, depth + 1);
            text.add(")");
        } else if (oneIn(2)) {
            text.add(FACTS[below(FACTS.length)]);
        } else {
            text.add("" + (oneIn(8) ? below(10000) : below(12)));
        }
    }

    /** A text that most likely has a fault. */
    List<String> wrong() {
        List<String> text = right(false);
        int changes = 1 + below(3);
        for (int n = 0; n < changes; n++) {
            int at = below(text.size() + 1);
            switch (below(9)) {
                case 0:
                    text.add(at, ALL[below(ALL.length)]);
                    break;
                case 1:
                    if (at < text.size()) {
                        text.remove(at);
                    }
                    break;
                case 2:
                    if (at < text.size()) {
                        text.set(at, ALL[below(ALL.length)]);
                    }
                    break;
                case 3:
                    text.subList(at, text.size()).clear();
                    break;
                case 4:
                    crowd(text);
                    break;
                case 5:
                case 6:
                    changeOne(text, "[a-h]|rook|queening|thin|boards|iff", NAMES[below(NAMES.length)]);
                    break;
                default:
                    changeOne(text, "[0-9]+", "" + below(oneIn(2) ? 10000 : 1100));
            }
        }
        return text;
    }

    /** Adds something of which there may be too many. */
    private void crowd(List<String> text) {
        int n = below(4);
        switch (below(5)) {
            case 0:
                for (int k = 0; k < 4 + n; k++) {
                    tell(text, "board", "n" + "abcdefgh".charAt(k), "1", "1", ";");
                }
                break;
            case 1:
                tell(text, "thinks");
                for (int k = 0; k < 3 + n; k++) {
                    text.add("" + k);
                }
                text.add(";");
                break;
            case 2:
                tell(text, "worth", "a", "=");
                for (int k = 0; k < 3 + n; k++) {
                    tell(text, "if", "1", "<", "" + k, "then", "2", "else");
                }
                tell(text, "3", ";");
                break;
            case 3:
                tell(text, "draw", "a", "=");
                for (int k = 0; k < 4 + n; k++) {
                    text.add("(");
                }
                text.add("sum");
                for (int k = 0; k < 4 + n; k++) {
                    text.add(")");
                }
                text.add(";");
                break;
            default:
                while (text.size() < 390 + n) {
                    text.add(below(2) * text.size(), ";");
                    text.add(text.get(0).equals(";") ? 0 : text.size() - 1, "step");
                    text.add(text.get(0).equals("step") ? 1 : text.size() - 1, "1");
                }
        }
    }

    private void changeOne(List<String> text, String kind, String token) {
        for (int k = 0; k < text.size(); k++) {
            if (text.get(k).matches(kind) && oneIn(6)) {
                text.set(k, token);
                return;
            }
        }
    }

    /** The tokens with blanks between them, or with none where they stay apart without. */
    String joined(List<String> tokens) {
        StringBuilder text = new StringBuilder();
        boolean close = oneIn(2);
        for (String token : tokens) {
            boolean grows = text.length() > 0
                && ("" + text.charAt(text.length() - 1) + token.charAt(0)).matches("[a-z][a-z]|[0-9][0-9]");
            if (grows && !oneIn(500) || !close) {
                text.append(oneIn(20) ? "\r\n\t" : " ");
            }
            text.append(token);
        }
        if (oneIn(3)) {
            text.append(" ");
        }
        return text.length() > 2000 ? text.substring(0, 2000) : text.toString();
    }
}
