import java.util.ArrayDeque;
import java.util.ArrayList;
import java.util.Arrays;
import java.util.HashSet;
import java.util.LinkedHashSet;
import java.util.List;
import java.util.Set;

/**
 * The document once more, in another way: texts by a chart over the grammar as it is written down,
 * laws by trees, plays that are copied for whatever is tried. Slow, and shares no code with OneClock.
 */
final class Model {
    static final int BAD = -1000000;

    // ---------------------------------------------------------------- texts

    private record Token(String kind, String text, int place) {
    }

    private record Item(String head, String[] body, int dot, int from) {
        String key() {
            return head + ">" + String.join(" ", body) + "@" + dot + "," + from;
        }
    }

    private static final String[][] GRAMMAR = {
        {"TEXT"}, {"TEXT", "TEXT", "TELL"},
        {"TELL", "board", "NAME", "INT", "INT", ";"},
        {"TELL", "worth", "NAME", "LAW", ";"}, {"TELL", "answer", "NAME", "LAW", ";"},
        {"TELL", "draw", "NAME", "LAW", ";"}, {"TELL", "thinks", "INTS", ";"},
        {"TELL", "step", "INT", ";"}, {"TELL", "clock", "INT", ";"}, {"TELL", "flag", "INT", ";"},
        {"INTS"}, {"INTS", "INTS", "INT"},
        {"LAW", "=", "IFS", "E"}, {"IFS"},
        {"IFS", "IFS", "if", "E", "<", "E", "then", "E", "else"},
        {"E", "PART"}, {"E", "E", "+", "PART"}, {"E", "E", "-", "PART"},
        {"PART", "UNIT"}, {"PART", "PART", "*", "UNIT"}, {"PART", "PART", "/", "UNIT"},
        {"UNIT", "INT"}, {"UNIT", "VAR"}, {"UNIT", "(", "E", ")"},
        {"VAR", "think"}, {"VAR", "move"}, {"VAR", "time"}, {"VAR", "idle"}, {"VAR", "left"}, {"VAR", "sum"},
    };
    private static final Set<String> HEADS = new HashSet<>();
    private static final Set<String> WORDS = Set.of("board", "worth", "answer", "draw", "thinks", "step",
        "clock", "flag", "if", "then", "else", "think", "move", "time", "idle", "left", "sum");

    static {
        for (String[] line : GRAMMAR) {
            HEADS.add(line[0]);
        }
    }

    static final class Fault extends Exception {
        final int number;
        final int place;

        Fault(int number, int place) {
            this.number = number;
            this.place = place;
        }
    }

    private static List<Token> tokens(String text) {
        List<Token> all = new ArrayList<>();
        int at = 0;
        while (at < text.length()) {
            char c = text.charAt(at);
            int end = at + 1;
            if (" \t\n\r".indexOf(c) >= 0) {
                at++;
                continue;
            }
            String run = c >= 'a' && c <= 'z' ? "[a-z]+" : c >= '0' && c <= '9' ? "[0-9]+" : null;
            while (run != null && end < text.length() && text.substring(at, end + 1).matches(run)) {
                end++;
            }
            String word = text.substring(at, end);
            String kind = "none";
            if (WORDS.contains(word) || ";=+-*/<()".contains(word)) {
                kind = word;
            } else if (word.matches("[a-z]{1,8}")) {
                kind = "NAME";
            } else if (word.matches("[0-9]{1,4}")) {
                kind = "INT";
            }
            all.add(new Token(kind, word, at));
            at = end;
        }
        return all;
    }

    /** How many tokens some text goes on with; whether they are a text themselves, by sign. */
    private static int goesTo(List<Token> tokens) {
        List<List<Item>> chart = new ArrayList<>();
        List<Item> now = new ArrayList<>();
        now.add(new Item("ALL", new String[] {"TEXT"}, 0, 0));
        for (int at = 0; ; at++) {
            close(now, chart, at);
            chart.add(now);
            if (at == tokens.size()) {
                for (Item item : now) {
                    if (item.head.equals("ALL") && item.dot == 1) {
                        return tokens.size() + 1;
                    }
                }
                return tokens.size();
            }
            List<Item> next = new ArrayList<>();
            for (Item item : now) {
                if (item.dot < item.body.length && item.body[item.dot].equals(tokens.get(at).kind)) {
                    next.add(new Item(item.head, item.body, item.dot + 1, item.from));
                }
            }
            if (next.isEmpty()) {
                return at;
            }
            now = next;
        }
    }

    private static void close(List<Item> now, List<List<Item>> chart, int at) {
        Set<String> seen = new HashSet<>();
        for (Item item : now) {
            seen.add(item.key());
        }
        Set<String> empty = Set.of("TEXT", "INTS", "IFS");
        ArrayDeque<Item> work = new ArrayDeque<>(now);
        while (!work.isEmpty()) {
            Item item = work.poll();
            List<Item> come = new ArrayList<>();
            if (item.dot == item.body.length) {
                List<Item> there = item.from == at ? new ArrayList<>(now) : chart.get(item.from);
                for (Item other : there) {
                    if (other.dot < other.body.length && other.body[other.dot].equals(item.head)) {
                        come.add(new Item(other.head, other.body, other.dot + 1, other.from));
                    }
                }
            } else if (HEADS.contains(item.body[item.dot])) {
                for (String[] line : GRAMMAR) {
                    if (line[0].equals(item.body[item.dot])) {
                        come.add(new Item(line[0], Arrays.copyOfRange(line, 1, line.length), 0, at));
                    }
                }
                if (empty.contains(item.body[item.dot])) {
                    come.add(new Item(item.head, item.body, item.dot + 1, item.from));
                }
            }
            for (Item one : come) {
                if (seen.add(one.key())) {
                    now.add(one);
                    work.add(one);
                }
            }
        }
    }

    /** The number of the token that has no room, or more than there are. */
    private static int noRoom(List<Token> tokens) {
        int boards = 0;
        int ints = 0;
        int ifs = 0;
        int open = 0;
        String tell = ";";
        for (int k = 0; k < tokens.size(); k++) {
            String kind = tokens.get(k).kind;
            if (tell.equals(";")) {
                tell = kind;
                ints = 0;
                ifs = 0;
                open = 0;
            }
            boards += kind.equals("board") ? 1 : 0;
            ints += kind.equals("INT") ? 1 : 0;
            ifs += kind.equals("if") ? 1 : 0;
            open += kind.equals("(") ? 1 : kind.equals(")") ? -1 : 0;
            boolean noRoom = k >= 400 || boards > 6 || tell.equals("thinks") && ints > 4 || ifs > 4 || open > 6;
            if (noRoom) {
                return k;
            }
            if (kind.equals(";")) {
                tell = ";";
            }
        }
        return Integer.MAX_VALUE;
    }

    // ---------------------------------------------------------------- laws

    private static final class ByZero extends RuntimeException {
    }

    private static final class Tree {
        final String what;
        final Tree one;
        final Tree other;

        Tree(String what, Tree one, Tree other) {
            this.what = what;
            this.one = one;
            this.other = other;
        }

        int value(int[] facts) {
            if (one != null) {
                int a = one.value(facts);
                int b = other.value(facts);
                switch (what) {
                    case "+": return a + b;
                    case "-": return a - b;
                    case "*": return a * b;
                    default:
                        if (b == 0) {
                            throw new ByZero();
                        }
                        return a / b;
                }
            }
            int fact = List.of("think", "move", "time", "idle", "left", "sum").indexOf(what);
            return fact >= 0 ? facts[fact] : Integer.parseInt(what);
        }
    }

    /** The tree of an E: cut at its last sign of a sum, else at its last sign of a product. */
    private static Tree tree(List<Token> tokens) {
        for (String signs : new String[] {"+-", "*/"}) {
            int open = 0;
            for (int k = tokens.size() - 1; k > 0; k--) {
                String kind = tokens.get(k).kind;
                open += kind.equals(")") ? 1 : kind.equals("(") ? -1 : 0;
                if (open == 0 && signs.contains(kind)) {
                    return new Tree(kind, tree(tokens.subList(0, k)), tree(tokens.subList(k + 1, tokens.size())));
                }
            }
        }
        if (tokens.get(0).kind.equals("(")) {
            return tree(tokens.subList(1, tokens.size() - 1));
        }
        return new Tree(tokens.get(0).text, null, null);
    }

    /** A law: its E in threes (less, than, then), the last one alone. */
    private record Law(List<Tree> parts) {
        static Law of(List<Token> tokens) {
            List<Tree> parts = new ArrayList<>();
            List<Token> part = new ArrayList<>();
            for (Token token : tokens) {
                if (Set.of("if", "<", "then", "else").contains(token.kind)) {
                    if (!part.isEmpty()) {
                        parts.add(tree(part));
                    }
                    part = new ArrayList<>();
                } else {
                    part.add(token);
                }
            }
            parts.add(tree(part));
            return new Law(parts);
        }

        int value(int[] facts, int least, int most) {
            int value;
            try {
                int k = 0;
                while (k + 3 < parts.size() && parts.get(k).value(facts) >= parts.get(k + 1).value(facts)) {
                    k += 3;
                }
                value = parts.get(k + 3 < parts.size() ? k + 2 : parts.size() - 1).value(facts);
            } catch (ByZero none) {
                value = 0;
            }
            return value < least ? least : value > most ? most : value;
        }
    }

    // ---------------------------------------------------------------- plans

    static final class Plan {
        final List<String> names = new ArrayList<>();
        final List<int[]> boards = new ArrayList<>();
        final Law[] worth = new Law[6];
        final Law[] answer = new Law[6];
        final Law[] draw = new Law[6];
        List<Integer> thinks = List.of(1);
        int step = 1;
        int clock = 120;
        int flag = 0;
    }

    private static Plan read(String text) throws Fault {
        List<Token> tokens = tokens(text);
        int syntax = goesTo(tokens);
        int room = noRoom(tokens);
        if (syntax <= room && syntax <= tokens.size()) {
            throw new Fault(1, syntax == tokens.size() ? text.length() : tokens.get(syntax).place);
        }
        if (room < tokens.size()) {
            throw new Fault(2, tokens.get(room).place);
        }
        Plan plan = new Plan();
        int from = 0;
        for (int k = 0; k < tokens.size(); k++) {
            if (tokens.get(k).kind.equals(";")) {
                readTell(plan, tokens.subList(from, k));
                from = k + 1;
            }
        }
        return plan;
    }

    private static int number(Token token, int least, int most) throws Fault {
        int number = Integer.parseInt(token.text);
        if (number < least || number > most) {
            throw new Fault(5, token.place);
        }
        return number;
    }

    private static void readTell(Plan plan, List<Token> tell) throws Fault {
        Token second = tell.size() > 1 ? tell.get(1) : null;
        switch (tell.get(0).kind) {
            case "board":
                if (plan.names.contains(second.text)) {
                    throw new Fault(3, second.place);
                }
                plan.names.add(second.text);
                plan.boards.add(new int[] {number(tell.get(2), 0, 9), number(tell.get(3), 0, 999)});
                break;
            case "thinks":
                List<Integer> thinks = new ArrayList<>();
                for (Token token : tell.subList(1, tell.size())) {
                    thinks.add(number(token, 0, 60));
                }
                plan.thinks = thinks.isEmpty() ? List.of(1) : thinks;
                break;
            case "step":
                plan.step = number(second, 0, 9);
                break;
            case "clock":
                plan.clock = number(second, 1, 500);
                break;
            case "flag":
                plan.flag = number(second, 0, 999);
                break;
            default:
                int board = plan.names.indexOf(second.text);
                if (board < 0) {
                    throw new Fault(4, second.place);
                }
                Law law = Law.of(tell.subList(3, tell.size()));
                String kind = tell.get(0).kind;
                (kind.equals("worth") ? plan.worth : kind.equals("answer") ? plan.answer : plan.draw)[board] = law;
        }
    }

    // ---------------------------------------------------------------- plays

    private static final class Play {
        final Plan plan;
        int minute;
        int at;
        int sum;
        boolean flagFell;
        int[] made = new int[6];
        int[] ready = new int[6];
        int[] end = new int[6];
        List<Integer> round = new ArrayList<>();
        int[] extra = new int[6];
        boolean[] quick = new boolean[6];

        Play(Plan plan) {
            this.plan = plan;
            for (int b = 0; b < plan.boards.size(); b++) {
                round.add(b);
            }
        }

        Play(Play old) {
            plan = old.plan;
            minute = old.minute;
            at = old.at;
            sum = old.sum;
            flagFell = old.flagFell;
            made = old.made.clone();
            ready = old.ready.clone();
            end = old.end.clone();
            round = new ArrayList<>(old.round);
            extra = old.extra.clone();
            quick = old.quick.clone();
        }

        int size() {
            return plan.boards.size();
        }

        int left(int b) {
            return plan.boards.get(b)[0] - made[b];
        }

        boolean open(int b) {
            return left(b) > 0 && end[b] == 0;
        }

        List<Integer> allOpen() {
            List<Integer> all = new ArrayList<>();
            for (int b = 0; b < size(); b++) {
                if (open(b)) {
                    all.add(b);
                }
            }
            return all;
        }

        boolean over() {
            return flagFell || minute == plan.clock || allOpen().isEmpty();
        }

        int steps(int b) {
            int forth = Math.floorMod(round.indexOf(b) - round.indexOf(at), size());
            return Math.min(forth, Math.floorMod(-forth, size()));
        }

        int begin(int b) {
            int there = minute + plan.step * steps(b);
            return there < ready[b] ? ready[b] : there;
        }

        int[] facts(int b, int think, int time) {
            return new int[] {think, made[b], time, time - ready[b], left(b), sum};
        }

        int worth(int b, int think, int time) {
            return plan.worth[b] == null ? 1 : plan.worth[b].value(facts(b, think, time), -999, 999);
        }

        boolean flagFalls(int b, int minuteThen) {
            if (minuteThen <= plan.clock) {
                return false;
            }
            at = b;
            minute = plan.clock;
            flagFell = true;
            sum -= plan.flag;
            return true;
        }

        Play move(int b, int think) {
            return move(b, think, begin(b));
        }

        Play move(int b, int think, int time) {
            Play then = new Play(this);
            if (then.flagFalls(b, time + think)) {
                return then;
            }
            then.at = b;
            then.minute = time + think;
            then.made[b]++;
            then.sum += worth(b, think, time);
            int answer = plan.answer[b] == null ? 1 : plan.answer[b].value(facts(b, think, time), 0, 99);
            then.ready[b] = then.minute + (quick[b] ? 0 : answer) + extra[b];
            return then;
        }

        Play offer(int b) {
            Play then = new Play(this);
            int time = begin(b);
            if (then.flagFalls(b, time)) {
                return then;
            }
            int draw = plan.draw[b] == null ? 0 : plan.draw[b].value(facts(b, 0, time), -999, 999);
            then.at = b;
            then.minute = draw > 0 ? time : Math.min(plan.clock, time + 1);
            if (draw > 0) {
                then.sum += draw;
                then.end[b] = 1;
            }
            return then;
        }

        Play drop(int b) {
            Play then = new Play(this);
            then.end[b] = 2;
            then.sum -= plan.boards.get(b)[1];
            return then;
        }

        Play byRule(int rule, int think) {
            Play play = this;
            while (!play.over()) {
                int best = -1;
                for (int b : play.allOpen()) {
                    if (best < 0 || play.merit(rule, b, think) > play.merit(rule, best, think)) {
                        best = b;
                    }
                }
                play = play.move(best, think);
            }
            return play;
        }

        private int merit(int rule, int b, int think) {
            switch (rule) {
                case 0: return -begin(b);
                case 1: return left(b);
                case 2: return -ready[b];
                default: return worth(b, think, begin(b));
            }
        }
    }

    // ---------------------------------------------------------------- the face

    private String tape = "";
    private int place = -1;
    private Plan plan = new Plan();
    private Play play = new Play(plan);
    private final ArrayDeque<Play> past = new ArrayDeque<>();
    private final List<int[]> told = new ArrayList<>();
    private Play[] slots = new Play[3];

    int feed(int... ints) {
        if (tape.length() + 20 > 2000) {
            return -1;
        }
        for (int four : ints) {
            for (int k = 3; k >= 0; k--) {
                tape += (char) (four >> 8 * k & 255);
            }
        }
        return tape.length();
    }

    int back(int n) {
        if (n < 0 || n > tape.length()) {
            return -1;
        }
        tape = tape.substring(0, tape.length() - n);
        return tape.length();
    }

    int read() {
        try {
            Plan told = read(tape);
            plan = told;
            play = new Play(plan);
            past.clear();
            this.told.clear();
            slots = new Play[3];
            place = -1;
            return 0;
        } catch (Fault fault) {
            place = fault.place;
            return fault.number;
        } finally {
            tape = "";
        }
    }

    int place() {
        return place;
    }

    private boolean known(int b) {
        return b >= 0 && b < plan.boards.size();
    }

    private boolean known(int rule, int i) {
        return rule >= 0 && rule <= 3 && i >= 0 && i < plan.thinks.size();
    }

    int board(int b, int what) {
        if (!known(b) || what < 0 || what > 5) {
            return -1;
        }
        return new int[] {play.left(b), play.ready[b], play.made[b], play.open(b) ? 1 : 0, play.steps(b),
            play.end[b]}[what];
    }

    int sum() {
        return play.sum;
    }

    private void go(Play then) {
        past.addLast(play);
        if (past.size() > 50) {
            past.removeFirst();
        }
        play = then;
    }

    int move(int b, int i) {
        if (!known(b) || !known(0, i)) {
            return -1;
        }
        if (play.over() || !play.open(b)) {
            return 2;
        }
        go(play.move(b, plan.thinks.get(i)));
        return play.flagFell ? 1 : 0;
    }

    int offer(int b) {
        if (!known(b)) {
            return -1;
        }
        if (play.over() || !play.open(b)) {
            return 3;
        }
        go(play.offer(b));
        return play.flagFell ? 2 : play.end[b];
    }

    int drop(int b) {
        if (!known(b) || play.over() || !play.open(b)) {
            return 0;
        }
        go(play.drop(b));
        return 1;
    }

    int pause(int n) {
        if (n < 1 || n > 500 || play.over()) {
            return -1;
        }
        Play then = new Play(play);
        then.minute = Math.min(plan.clock, play.minute + n);
        go(then);
        return then.minute;
    }

    int undo() {
        if (past.isEmpty()) {
            return 0;
        }
        play = past.removeLast();
        return 1;
    }

    int begins(int b) {
        return !known(b) ? -1 : play.open(b) ? play.begin(b) : -2;
    }

    private record Row(int won, List<Integer> moves) {
    }

    private Row bestRow(Play from, int d) {
        if (d == 0 || from.over()) {
            return new Row(from.sum, List.of());
        }
        Row best = null;
        for (int b : from.allOpen()) {
            for (int i = 0; i < plan.thinks.size(); i++) {
                Row row = bestRow(from.move(b, plan.thinks.get(i)), d - 1);
                if (best == null || row.won > best.won) {
                    List<Integer> moves = new ArrayList<>(List.of(10 * b + i));
                    moves.addAll(row.moves);
                    best = new Row(row.won, moves);
                }
            }
        }
        return best;
    }

    int best(int d) {
        return d < 1 || d > 4 ? BAD : bestRow(play, d).won;
    }

    int bestAt(int d, int i) {
        if (d < 1 || d > 4 || i < 0) {
            return -1;
        }
        List<Integer> moves = bestRow(play, d).moves;
        return i < moves.size() ? moves.get(i) : -2;
    }

    int rule(int rule, int i, int what) {
        if (!known(rule, i) || what < 0 || what > 1) {
            return BAD;
        }
        Play end = play.byRule(rule, plan.thinks.get(i));
        return what == 0 ? end.sum : end.minute;
    }

    int bestRule(int what) {
        if (what < 0 || what > 2) {
            return BAD;
        }
        int[] best = null;
        for (int rule = 0; rule < 4; rule++) {
            for (int i = 0; i < plan.thinks.size(); i++) {
                int won = rule(rule, i, 0);
                if (best == null || won > best[2]) {
                    best = new int[] {rule, i, won};
                }
            }
        }
        return best[what];
    }

    int dropBest(int rule, int i, int what) {
        if (!known(rule, i) || what < 0 || what > 1) {
            return BAD;
        }
        List<int[]> ways = new ArrayList<>();
        for (int bits = 0; bits < 64; bits++) {
            Play then = play;
            boolean can = true;
            for (int b = 0; b < 6; b++) {
                if ((bits & 1 << b) != 0) {
                    can &= known(b) && play.open(b) && !play.over();
                    then = can ? then.drop(b) : then;
                }
            }
            if (can) {
                ways.add(new int[] {then.byRule(rule, plan.thinks.get(i)).sum, bits});
            }
        }
        ways.sort((a, b) -> a[0] != b[0] ? b[0] - a[0] : Integer.bitCount(a[1]) != Integer.bitCount(b[1])
            ? Integer.bitCount(a[1]) - Integer.bitCount(b[1]) : a[1] - b[1]);
        return ways.get(0)[what];
    }

    int offerBest(int rule, int i, int what) {
        if (!known(rule, i) || what < 0 || what > 1) {
            return BAD;
        }
        int[] best = {rule(rule, i, 0), -2};
        for (int b = 0; b < plan.boards.size() && !play.over(); b++) {
            int won = play.open(b) ? play.offer(b).byRule(rule, plan.thinks.get(i)).sum : Integer.MIN_VALUE;
            if (won > best[0]) {
                best = new int[] {won, b};
            }
        }
        return best[what];
    }

    int haste(int b, int rule, int i) {
        if (!known(b) || !known(rule, i)) {
            return BAD;
        }
        Play quick = new Play(play);
        quick.quick[b] = true;
        return quick.byRule(rule, plan.thinks.get(i)).sum - rule(rule, i, 0);
    }

    int spare(int b, int rule, int i) {
        if (!known(b) || !known(rule, i)) {
            return BAD;
        }
        int longest = -2;
        for (int n = 0; n <= 60 && play.open(b) && !play.over(); n++) {
            if (!play.move(b, n).byRule(rule, plan.thinks.get(i)).flagFell) {
                longest = n;
            }
        }
        return longest;
    }

    int agreed(int a, int b, int rule, int i, int what) {
        if (!known(a) || !known(b) || a == b || !known(rule, i) || what < 0 || what > 1) {
            return BAD;
        }
        int[] least = null;
        for (int both = 0; both < 100; both++) {
            Play late = new Play(play);
            late.extra[a] = both / 10;
            late.extra[b] = both % 10;
            int won = late.byRule(rule, plan.thinks.get(i)).sum;
            if (least == null || won < least[0]) {
                least = new int[] {won, both};
            }
        }
        return least[what];
    }

    private static Set<List<Integer>> orders(int n) {
        Set<List<Integer>> all = new LinkedHashSet<>();
        if (n == 0) {
            all.add(List.of());
            return all;
        }
        for (List<Integer> fewer : orders(n - 1)) {
            for (int k = 0; k < n; k++) {
                List<Integer> more = new ArrayList<>(fewer);
                more.add(k, n - 1);
                all.add(more);
            }
        }
        return all;
    }

    private Object[] bestSeats(int rule, int i) {
        List<List<Integer>> orders = new ArrayList<>(orders(plan.boards.size()));
        orders.sort((a, b) -> a.toString().compareTo(b.toString()));
        Object[] best = null;
        for (List<Integer> order : orders) {
            Play start = new Play(plan);
            start.round = order;
            start.at = order.get(0);
            int won = start.byRule(rule, plan.thinks.get(i)).sum;
            if (best == null || won > (Integer) best[0]) {
                best = new Object[] {won, order};
            }
        }
        return best;
    }

    int seats(int rule, int i) {
        return !known(rule, i) || plan.boards.isEmpty() ? BAD : (Integer) bestSeats(rule, i)[0];
    }

    @SuppressWarnings("unchecked")
    int seatAt(int rule, int i, int k) {
        return !known(rule, i) || !known(k) ? -1 : ((List<Integer>) bestSeats(rule, i)[1]).get(k);
    }

    private int alone(int bits, int rule, int i) {
        Play start = new Play(plan);
        for (int b = plan.boards.size() - 1; b >= 0; b--) {
            if ((bits & 1 << b) != 0) {
                start.at = b;
            } else {
                start.made[b] = plan.boards.get(b)[0];
            }
        }
        return bits == 0 ? 0 : start.byRule(rule, plan.thinks.get(i)).sum;
    }

    int shared(int rule, int i, int what) {
        if (!known(rule, i) || what < 0 || what > 1) {
            return BAD;
        }
        int all = (1 << plan.boards.size()) - 1;
        int[] best = {Integer.MIN_VALUE, 0};
        for (int bits = 0; bits <= all; bits++) {
            int won = alone(bits, rule, i) + alone(all & ~bits, rule, i);
            if (won > best[0]) {
                best = new int[] {won, bits};
            }
        }
        return best[what];
    }

    int tell(int b, int minute) {
        if (!known(b) || minute < 0 || minute > 500 || told.size() == 4) {
            return -1;
        }
        told.add(new int[] {b, minute});
        return told.size() - 1;
    }

    int forget() {
        int n = told.size();
        told.clear();
        return n;
    }

    /** By trying every wait, minute by minute. */
    private int fits(Play from, int k, int known) {
        if (k == known) {
            return 1;
        }
        int b = told.get(k)[0];
        if (from.over() || !from.open(b)) {
            return 0;
        }
        int rows = 0;
        for (int think : plan.thinks) {
            for (int wait = 0; wait <= 500; wait++) {
                int time = from.begin(b) + wait;
                boolean waited = wait == 0 || time < plan.clock;
                if (waited && time + think == told.get(k)[1] && time + think <= plan.clock) {
                    rows += fits(from.move(b, think, time), k + 1, known);
                }
            }
        }
        return rows;
    }

    int fits(int k) {
        return k < 0 || k > told.size() ? -1 : fits(new Play(plan), 0, k);
    }

    int hold(int slot) {
        if (slot < 0 || slot > 2) {
            return 0;
        }
        slots[slot] = play;
        return 1;
    }

    int restore(int slot) {
        if (slot < 0 || slot > 2 || slots[slot] == null) {
            return 0;
        }
        play = slots[slot];
        past.clear();
        return 1;
    }

    int count(int what) {
        switch (what) {
            case 0: return plan.boards.size();
            case 1: return play.minute;
            case 2: return plan.boards.isEmpty() ? -2 : play.at;
            case 3: return plan.clock;
            case 4: return plan.step;
            case 5: return plan.flag;
            case 6: return plan.thinks.size();
            case 7: return play.allOpen().size();
            case 8: return play.over() ? 1 : 0;
            case 9: return play.flagFell ? 1 : 0;
            case 10: return tape.length();
            case 11: return past.size();
            case 12: return told.size();
            case 13: return (int) Arrays.stream(slots).filter(s -> s != null).count();
            default: return -1;
        }
    }

    /** How many rows of a depth there would be: lets a test leave out what takes too long. */
    long rows(int d) {
        return (long) Math.pow(play.allOpen().size() * plan.thinks.size(), d);
    }

    int allMoves() {
        int all = 0;
        for (int[] board : plan.boards) {
            all += board[0];
        }
        return all;
    }

    boolean isOver() {
        return play.over();
    }
}
