/**
 * A master who plays several boards at once by one clock. What the words of the comments mean
 * (BOARD, RULE, FLAG, TOLD ..) is told by the terms of DOC.md.
 */
public final class OneClock {
    public static final int NONE = -1;

    private static final int NO_ANSWER = -1000000;
    private static final int NOT_SO = -2;

    private static final int MOST_BOARDS = 6;
    private static final int MOST_MOVES = 9;
    private static final int MOST_LOST = 999;
    private static final int MOST_THINKS = 4;
    private static final int MOST_THINK = 60;
    private static final int MOST_STEP = 9;
    private static final int MOST_CLOCK = 500;
    private static final int MOST_FLAG = 999;
    private static final int MOST_BYTES = 2000;
    private static final int MOST_TOKENS = 400;
    private static final int MOST_IFS = 4;
    private static final int MOST_NESTED = 6;
    private static final int MOST_DEPTH = 4;
    private static final int MOST_UNDONE = 50;
    private static final int MOST_TOLD = 4;
    private static final int MOST_LATER = 9;
    private static final int MOST_WORTH = 999;
    private static final int SLOTS = 3;
    private static final int RULES = 4;
    private static final int ORDERS = 720;

    private static final int SYNTAX = 1;
    private static final int ROOM = 2;
    private static final int TWICE = 3;
    private static final int UNKNOWN = 4;
    private static final int WRONG = 5;

    private static final int SOONEST = 0;
    private static final int MOST_LEFT = 1;
    private static final int READY_FIRST = 2;

    private static final int BY_DRAW = 1;
    private static final int BY_LETTING_GO = 2;
    private static final int NOT_HIS = 3;

    private static final int DONE = 0;
    private static final int FLAG_FELL = 1;

    /** Ints that a Play takes when it is written down. */
    private static final int ROW = 4 + 3 * MOST_BOARDS;

    private final Tape tape;
    private final Plan plan;
    /** What is read is put here, so that a text with a fault leaves the plan as it is. */
    private final Plan next;
    private final Reader reader;
    private final Play now;
    private final Guide guide;
    private final Witness witness;
    private final Past past;
    private final Slots slots;

    public OneClock() {
        tape = new Tape();
        plan = new Plan();
        next = new Plan();
        reader = new Reader(tape, next);
        now = new Play(plan);
        guide = new Guide(plan, now);
        witness = new Witness(plan);
        past = new Past();
        slots = new Slots();
    }

    public int feed(int a, int b, int c, int d, int e) {
        if (tape.length + 20 > MOST_BYTES) {
            return NONE;
        }
        tape.addInt(a);
        tape.addInt(b);
        tape.addInt(c);
        tape.addInt(d);
        tape.addInt(e);
        return tape.length;
    }

    public int back(int n) {
        if (n < 0 || n > tape.length) {
            return NONE;
        }
        tape.length -= n;
        return tape.length;
    }

    public int read() {
        int fault = reader.readText();
        tape.length = 0;
        if (fault == 0) {
            plan.copyFrom(next);
            now.setOut();
            guide.textChanges();
            past.clear();
            slots.clear();
            witness.size = 0;
        }
        return fault;
    }

    public int place() {
        return reader.faultPlace;
    }

    public int board(int board, int what) {
        if (!isBoard(board)) {
            return NONE;
        }
        switch (what) {
            case 0:
                return now.left[board];
            case 1:
                return now.ready[board];
            case 2:
                return now.made(board);
            case 3:
                return now.isOpen(board) ? 1 : 0;
            case 4:
                return now.stepsTo(board);
            case 5:
                return now.ended[board];
            default:
                return NONE;
        }
    }

    public int sum() {
        return now.won;
    }

    public int move(int board, int i) {
        if (!isBoard(board) || !isThink(i)) {
            return NONE;
        }
        if (!canPlay(board)) {
            return 2;
        }
        noteWhatStands();
        return now.makeMove(board, now.soonest(board), plan.thinks[i]);
    }

    public int offer(int board) {
        if (!isBoard(board)) {
            return NONE;
        }
        if (!canPlay(board)) {
            return 3;
        }
        noteWhatStands();
        return now.makeOffer(board);
    }

    public boolean drop(int board) {
        if (!isBoard(board) || !canPlay(board)) {
            return false;
        }
        noteWhatStands();
        now.letGo(board);
        return true;
    }

    public int pause(int n) {
        if (n < 1 || n > MOST_CLOCK || now.isOver()) {
            return NONE;
        }
        noteWhatStands();
        now.minute = Math.min(now.minute + n, plan.clock);
        return now.minute;
    }

    public boolean undo() {
        guide.playChanges();
        return past.pop(now);
    }

    public int begins(int board) {
        if (!isBoard(board)) {
            return NONE;
        }
        return now.isOpen(board) ? now.soonest(board) : NOT_SO;
    }

    public int best(int d) {
        if (!isDepth(d)) {
            return NO_ANSWER;
        }
        guide.findRow(d);
        return guide.bestRowWon;
    }

    public int bestAt(int d, int i) {
        if (!isDepth(d) || i < 0) {
            return NONE;
        }
        guide.findRow(d);
        return i < guide.bestLength ? guide.bestRow[i] : NOT_SO;
    }

    public int rule(int rule, int i, int what) {
        if (!isRule(rule, i) || !isHalf(what)) {
            return NO_ANSWER;
        }
        guide.findEnd(rule, plan.thinks[i]);
        return what == 0 ? guide.won : guide.which;
    }

    public int bestRule(int what) {
        if (what < 0 || what > 2) {
            return NO_ANSWER;
        }
        guide.findRule();
        if (what == 2) {
            return guide.won;
        }
        return what == 0 ? guide.which / MOST_THINKS : guide.which % MOST_THINKS;
    }

    public int dropBest(int rule, int i, int what) {
        if (!isRule(rule, i) || !isHalf(what)) {
            return NO_ANSWER;
        }
        guide.findDrops(rule, plan.thinks[i]);
        return what == 0 ? guide.won : guide.which;
    }

    public int offerBest(int rule, int i, int what) {
        if (!isRule(rule, i) || !isHalf(what)) {
            return NO_ANSWER;
        }
        guide.findOffer(rule, plan.thinks[i]);
        return what == 0 ? guide.won : guide.which;
    }

    public int haste(int board, int rule, int i) {
        if (!isBoard(board) || !isRule(rule, i)) {
            return NO_ANSWER;
        }
        return guide.hasteOf(board, rule, plan.thinks[i]);
    }

    public int spare(int board, int rule, int i) {
        if (!isBoard(board) || !isRule(rule, i)) {
            return NO_ANSWER;
        }
        return canPlay(board) ? guide.spareAt(board, rule, plan.thinks[i]) : NOT_SO;
    }

    public int agreed(int a, int b, int rule, int i, int what) {
        if (!isBoard(a) || !isBoard(b) || a == b || !isRule(rule, i) || !isHalf(what)) {
            return NO_ANSWER;
        }
        guide.findAgreed(a, b, rule, plan.thinks[i]);
        return what == 0 ? guide.won : guide.which;
    }

    public int seats(int rule, int i) {
        if (!isRule(rule, i) || plan.boards == 0) {
            return NO_ANSWER;
        }
        guide.findSeats(rule, plan.thinks[i]);
        return guide.bestOrderWon;
    }

    public int seatAt(int rule, int i, int k) {
        if (!isRule(rule, i) || !isBoard(k)) {
            return NONE;
        }
        guide.findSeats(rule, plan.thinks[i]);
        return guide.bestOrder[k];
    }

    public int shared(int rule, int i, int what) {
        if (!isRule(rule, i) || !isHalf(what)) {
            return NO_ANSWER;
        }
        guide.findShares(rule, plan.thinks[i]);
        return what == 0 ? guide.won : guide.which;
    }

    public int tell(int board, int minute) {
        if (!isBoard(board) || minute < 0 || minute > MOST_CLOCK || witness.size >= MOST_TOLD) {
            return NONE;
        }
        return witness.add(board, minute);
    }

    public int forget() {
        int told = witness.size;
        witness.size = 0;
        return told;
    }

    public int fits(int k) {
        if (k < 0 || k > witness.size) {
            return NONE;
        }
        return witness.rowsThatFit(k);
    }

    public boolean hold(int slot) {
        if (!isSlot(slot)) {
            return false;
        }
        slots.put(slot, now);
        return true;
    }

    public boolean restore(int slot) {
        if (!isSlot(slot) || !slots.held[slot]) {
            return false;
        }
        slots.take(slot, now);
        guide.playChanges();
        past.clear();
        return true;
    }

    public int count(int what) {
        switch (what) {
            case 0:
                return plan.boards;
            case 1:
                return now.minute;
            case 2:
                return plan.boards == 0 ? NOT_SO : now.spot;
            case 3:
                return plan.clock;
            case 4:
                return plan.step;
            case 5:
                return plan.flag;
            case 6:
                return plan.thinkCount;
            case 7:
                return now.openBoards();
            case 8:
                return now.isOver() ? 1 : 0;
            case 9:
                return now.fell ? 1 : 0;
            case 10:
                return tape.length;
            case 11:
                return past.size;
            case 12:
                return witness.size;
            case 13:
                return slots.used();
            default:
                return NONE;
        }
    }

    private boolean isBoard(int board) {
        return board >= 0 && board < plan.boards;
    }

    private boolean isThink(int i) {
        return i >= 0 && i < plan.thinkCount;
    }

    private boolean isRule(int rule, int i) {
        return rule >= 0 && rule < RULES && isThink(i);
    }

    private boolean isDepth(int d) {
        return d >= 1 && d <= MOST_DEPTH;
    }

    private boolean isSlot(int slot) {
        return slot >= 0 && slot < SLOTS;
    }

    /** Whether what names one of two answers. */
    private boolean isHalf(int what) {
        return what == 0 || what == 1;
    }

    private boolean canPlay(int board) {
        return now.isOpen(board) && !now.isOver();
    }

    /** To be called ahead of each thing that can be undone. */
    private void noteWhatStands() {
        past.push(now);
        guide.playChanges();
    }

    /** The bytes that were fed, and the things that they are made of once they are scanned. */
    private static final class Tape {
        /** Kinds of things; a sign's kind is its byte, a word's is WORD + its number. */
        static final int END = 0;
        static final int NO_TOKEN = 1;
        static final int NAME = 2;
        static final int INT = 3;
        static final int WORD = 128;

        private static final int WORD_COUNT = 17;
        private static final int LETTERS = 8;
        private static final int DIGITS = 4;
        /** The words, each in a cell of LETTERS, so that one is found without making objects. */
        private static final String WORDS = "board   worth   answer  draw    thinks  step    clock   flag    if      then    else    think   move    time    idle    left    sum     ";

        final byte[] bytes = new byte[MOST_BYTES];
        int length;
        /** Of each thing, by its number: one token too many and the end behind it at most. */
        final int[] kinds = new int[MOST_TOKENS + 2];
        final int[] values = new int[MOST_TOKENS + 2];
        final int[] starts = new int[MOST_TOKENS + 2];
        private final int[] ends = new int[MOST_TOKENS + 2];

        void addInt(int four) {
            for (int shift = 24; shift >= 0 && length < MOST_BYTES; shift -= 8) {
                bytes[length] = (byte) (four >>> shift);
                length++;
            }
        }

        /** Finds the things. Behind one token too many no reader looks, so it ends there. */
        void scan() {
            int at = skipBlanks(0);
            int count = 0;
            for (int n = 0; n <= MOST_TOKENS && at < length; n++) {
                starts[n] = at;
                ends[n] = endOfThing(at);
                kinds[n] = kindOfThing(at, ends[n]);
                values[n] = kinds[n] == INT ? valueOfDigits(at, ends[n]) : 0;
                at = skipBlanks(ends[n]);
                count = n + 1;
            }
            starts[count] = length;
            ends[count] = length;
            kinds[count] = END;
        }

        private int skipBlanks(int from) {
            int at = from;
            while (at < length && isBlank(bytes[at])) {
                at++;
            }
            return at;
        }

        private int endOfThing(int start) {
            int at = start;
            if (isLetter(bytes[start])) {
                while (at < length && isLetter(bytes[at])) {
                    at++;
                }
            } else {
                while (at < length && isDigit(bytes[at])) {
                    at++;
                }
            }
            return Math.max(at, start + 1);
        }

        private int kindOfThing(int start, int end) {
            int first = bytes[start];
            if (isDigit(first)) {
                return end - start > DIGITS ? NO_TOKEN : INT;
            }
            if (!isLetter(first)) {
                return isSign(first) ? first : NO_TOKEN;
            }
            if (end - start > LETTERS) {
                return NO_TOKEN;
            }
            for (int word = 0; word < WORD_COUNT; word++) {
                if (isWord(word, start, end)) {
                    return WORD + word;
                }
            }
            return NAME;
        }

        private boolean isWord(int word, int start, int end) {
            for (int k = 0; k < LETTERS; k++) {
                int letter = start + k < end ? bytes[start + k] : ' ';
                if (WORDS.charAt(word * LETTERS + k) != letter) {
                    return false;
                }
            }
            return true;
        }

        private int valueOfDigits(int start, int end) {
            int value = 0;
            for (int at = start; at < end && at < length; at++) {
                value = value * 10 + bytes[at] - '0';
            }
            return value;
        }

        /** Whether two things are the same byte by byte. */
        boolean areSame(int one, int other) {
            int size = ends[one] - starts[one];
            if (size != ends[other] - starts[other]) {
                return false;
            }
            for (int k = 0; k < size; k++) {
                if (bytes[starts[one] + k] != bytes[starts[other] + k]) {
                    return false;
                }
            }
            return true;
        }

        private boolean isBlank(int c) {
            return c == 9 || c == 10 || c == 13 || c == 32;
        }

        private boolean isLetter(int c) {
            return c >= 'a' && c <= 'z';
        }

        private boolean isDigit(int c) {
            return c >= '0' && c <= '9';
        }

        private boolean isSign(int c) {
            return c == ';' || c == '=' || c == '+' || c == '-' || c == '*' || c == '/'
                || c == '<' || c == '(' || c == ')';
        }
    }

    /** Reads the tape into a plan and finds the text's fault. */
    private static final class Reader {
        private static final int BOARD = Tape.WORD;
        private static final int FIRST_LAW = Tape.WORD + 1;
        private static final int LAST_LAW = Tape.WORD + 3;
        private static final int THINKS = Tape.WORD + 4;
        private static final int STEP = Tape.WORD + 5;
        private static final int CLOCK = Tape.WORD + 6;
        private static final int FLAG = Tape.WORD + 7;
        private static final int IF = Tape.WORD + 8;
        private static final int THEN = Tape.WORD + 9;
        private static final int ELSE = Tape.WORD + 10;
        private static final int FIRST_FACT = Tape.WORD + 11;
        private static final int LAST_FACT = Tape.WORD + 16;

        private final Tape tape;
        private final Plan plan;
        /** Which token of the tape each board's name is. */
        private final int[] names = new int[MOST_BOARDS];
        /** The thing in hand: its number on the tape, and its kind. */
        private int at;
        private int kind;
        private int fault;
        int faultPlace;
        /** The first fault of meaning: it counts only if the whole text has none of form. */
        private int slip;
        private int slipPlace;

        Reader(Tape tape, Plan plan) {
            this.tape = tape;
            this.plan = plan;
            this.faultPlace = NONE;
        }

        /** The number of the text's fault, 0 without; then the plan is what the text tells. */
        int readText() {
            startAnew();
            for (int n = 0; n <= MOST_TOKENS && fault == 0 && kind != Tape.END; n++) {
                if (kind == BOARD) {
                    readBoard();
                } else if (kind >= FIRST_LAW && kind <= LAST_LAW) {
                    readLaw(kind);
                } else if (kind == THINKS) {
                    readThinks();
                } else if (kind == STEP) {
                    plan.step = readNumber(STEP, 0, MOST_STEP);
                } else if (kind == CLOCK) {
                    plan.clock = readNumber(CLOCK, 1, MOST_CLOCK);
                } else if (kind == FLAG) {
                    plan.flag = readNumber(FLAG, 0, MOST_FLAG);
                } else {
                    fail(SYNTAX);
                }
            }
            if (fault == 0 && slip != 0) {
                fault = slip;
                faultPlace = slipPlace;
            }
            return fault;
        }

        private void startAnew() {
            plan.clear();
            tape.scan();
            at = 0;
            kind = tape.kinds[0];
            fault = 0;
            faultPlace = NONE;
            slip = 0;
            slipPlace = NONE;
        }

        private void readBoard() {
            int board = plan.boards;
            if (board >= MOST_BOARDS) {
                fail(ROOM);
                return;
            }
            pass(BOARD);
            if (findName() != NONE) {
                noteSlip(TWICE, at);
            }
            names[board] = at;
            pass(Tape.NAME);
            plan.moves[board] = readInt(0, MOST_MOVES);
            plan.lost[board] = readInt(0, MOST_LOST);
            pass(';');
            plan.boards++;
        }

        private int readNumber(int word, int least, int most) {
            pass(word);
            int number = readInt(least, most);
            pass(';');
            return number;
        }

        private void readThinks() {
            pass(THINKS);
            int count = 0;
            for (int n = 0; n <= MOST_THINKS && fault == 0 && kind == Tape.INT; n++) {
                if (count >= MOST_THINKS) {
                    fail(ROOM);
                    return;
                }
                plan.thinks[count] = readInt(0, MOST_THINK);
                count++;
            }
            pass(';');
            plan.thinkCount = count;
            if (count == 0) {
                plan.thinkOneMinute();
            }
        }

        private void readLaw(int word) {
            pass(word);
            int board = findName();
            if (board == NONE) {
                noteSlip(UNKNOWN, at);
            }
            pass(Tape.NAME);
            pass('=');
            plan.tellLaw(word - FIRST_LAW, board, plan.code.size);
            for (int ifs = 0; ifs <= MOST_IFS && fault == 0 && kind == IF; ifs++) {
                if (ifs >= MOST_IFS) {
                    fail(ROOM);
                    return;
                }
                pass(IF);
                readSum(1);
                pass('<');
                readSum(1);
                pass(THEN);
                int jump = plan.code.add(Code.UNLESS_LESS, 0);
                readSum(1);
                pass(ELSE);
                plan.code.add(Code.ANSWER, 0);
                plan.code.aimAtEnd(jump);
            }
            readSum(1);
            plan.code.add(Code.ANSWER, 0);
            pass(';');
        }

        /** Reads an E; nested is the number that a ( opened in it would have. */
        private void readSum(int nested) {
            readProduct(nested);
            for (int n = 0; n < MOST_TOKENS && fault == 0 && (kind == '+' || kind == '-'); n++) {
                int step = kind == '+' ? Code.ADD : Code.SUBTRACT;
                pass(kind);
                readProduct(nested);
                plan.code.add(step, 0);
            }
        }

        private void readProduct(int nested) {
            readUnit(nested);
            for (int n = 0; n < MOST_TOKENS && fault == 0 && (kind == '*' || kind == '/'); n++) {
                int step = kind == '*' ? Code.MULTIPLY : Code.DIVIDE;
                pass(kind);
                readUnit(nested);
                plan.code.add(step, 0);
            }
        }

        private void readUnit(int nested) {
            if (kind == Tape.INT) {
                plan.code.add(Code.NUMBER, tape.values[at]);
                pass(kind);
            } else if (kind >= FIRST_FACT && kind <= LAST_FACT) {
                plan.code.add(Code.FACT, kind - FIRST_FACT);
                pass(kind);
            } else if (kind != '(') {
                fail(SYNTAX);
            } else if (nested > MOST_NESTED) {
                fail(ROOM);
            } else if (pass('(')) {
                readSum(nested + 1);
                pass(')');
            }
        }

        private int readInt(int least, int most) {
            int number = at;
            if (!pass(Tape.INT)) {
                return least;
            }
            int value = tape.values[number];
            if (value < least || value > most) {
                noteSlip(WRONG, number);
            }
            return value;
        }

        /** The board that has the name in hand; NONE if no board told so far has it. */
        private int findName() {
            for (int b = 0; b < plan.boards && b < MOST_BOARDS; b++) {
                if (tape.areSame(names[b], at)) {
                    return b;
                }
            }
            return NONE;
        }

        /** Goes on behind the thing in hand if it is of this kind; else that is the fault. */
        private boolean pass(int wanted) {
            if (fault == 0 && kind != wanted) {
                fail(SYNTAX);
            } else if (at >= MOST_TOKENS) {
                fail(ROOM);
            }
            if (fault != 0) {
                return false;
            }
            at++;
            kind = tape.kinds[at];
            return true;
        }

        private void fail(int number) {
            if (fault == 0) {
                fault = number;
                faultPlace = tape.starts[at];
            }
        }

        private void noteSlip(int number, int token) {
            if (slip == 0) {
                slip = number;
                slipPlace = tape.starts[token];
            }
        }
    }

    /** The laws of a text as rows of small steps that work on a stack. */
    private static final class Code {
        static final int NUMBER = 0;
        static final int FACT = 1;
        static final int ADD = 2;
        static final int SUBTRACT = 3;
        static final int MULTIPLY = 4;
        static final int DIVIDE = 5;
        static final int UNLESS_LESS = 6;
        static final int ANSWER = 7;

        private static final int FACTS = 6;
        /** A sum and a product may wait at each depth of ( and so may the first E of an if. */
        private static final int STACK = 2 * (MOST_NESTED + 1) + 2;

        private final int[] steps = new int[MOST_TOKENS];
        private final int[] arguments = new int[MOST_TOKENS];
        private final int[] facts = new int[FACTS];
        private final int[] stack = new int[STACK];
        int size;

        /** The number of the step that was added. A step comes of a token of its own. */
        int add(int step, int argument) {
            if (size >= MOST_TOKENS) {
                return NONE;
            }
            steps[size] = step;
            arguments[size] = argument;
            size++;
            return size - 1;
        }

        /** Lets a jump go to the step that will be added next. */
        void aimAtEnd(int jump) {
            if (jump >= 0 && jump < size) {
                arguments[jump] = size;
            }
        }

        void copyFrom(Code other) {
            System.arraycopy(other.steps, 0, steps, 0, MOST_TOKENS);
            System.arraycopy(other.arguments, 0, arguments, 0, MOST_TOKENS);
            size = other.size;
        }

        /** Says what the laws may look at, in the order of the words in Tape.WORDS. */
        void setFacts(int think, int made, int time, int idle, int left, int sum) {
            facts[0] = think;
            facts[1] = made;
            facts[2] = time;
            facts[3] = idle;
            facts[4] = left;
            facts[5] = sum;
        }

        /** What the law that begins at a step says of the facts. Jumps only go forward. */
        int valueOf(int start) {
            int top = 0;
            int at = start;
            for (int n = 0; n < MOST_TOKENS && at >= 0 && at < size; n++) {
                int step = steps[at];
                int argument = arguments[at];
                at++;
                if (step == ANSWER) {
                    return top > 0 ? stack[top - 1] : 0;
                }
                if (step <= FACT) {
                    if (top >= STACK || argument < 0 || step == FACT && argument >= FACTS) {
                        return 0;
                    }
                    stack[top] = step == NUMBER ? argument : facts[argument];
                    top++;
                    continue;
                }
                if (top < 2) {
                    return 0;
                }
                top--;
                int left = stack[top - 1];
                int right = stack[top];
                switch (step) {
                    case ADD:
                        stack[top - 1] = left + right;
                        break;
                    case SUBTRACT:
                        stack[top - 1] = left - right;
                        break;
                    case MULTIPLY:
                        stack[top - 1] = left * right;
                        break;
                    case DIVIDE:
                        if (right == 0) {
                            return 0;
                        }
                        stack[top - 1] = left / right;
                        break;
                    default:
                        top--;
                        at = left < right ? at : argument;
                }
            }
            return 0;
        }
    }

    /** What a text tells. */
    private static final class Plan {
        static final int WORTH = 0;
        static final int ANSWER = 1;
        static final int DRAW = 2;

        private static final int LAWS = 3;
        private static final int[] UNTOLD = {1, 1, 0};
        private static final int[] LEAST = {-999, 0, -999};
        private static final int[] MOST = {999, 99, 999};

        final int[] moves = new int[MOST_BOARDS];
        final int[] lost = new int[MOST_BOARDS];
        final int[] thinks = new int[MOST_THINKS];
        final Code code = new Code();
        /** Where each board's laws begin in the code; NONE: not told. */
        private final int[] lawStart = new int[LAWS * MOST_BOARDS];
        int boards;
        int thinkCount;
        int step;
        int clock;
        int flag;

        Plan() {
            clear();
        }

        void clear() {
            boards = 0;
            step = 1;
            clock = 120;
            flag = 0;
            code.size = 0;
            for (int k = 0; k < lawStart.length; k++) {
                lawStart[k] = NONE;
            }
            thinkOneMinute();
        }

        void thinkOneMinute() {
            thinkCount = 1;
            thinks[0] = 1;
        }

        void tellLaw(int law, int board, int start) {
            if (law >= 0 && law < LAWS && board >= 0 && board < MOST_BOARDS) {
                lawStart[law * MOST_BOARDS + board] = start;
            }
        }

        void copyFrom(Plan other) {
            boards = other.boards;
            thinkCount = other.thinkCount;
            step = other.step;
            clock = other.clock;
            flag = other.flag;
            code.copyFrom(other.code);
            System.arraycopy(other.moves, 0, moves, 0, MOST_BOARDS);
            System.arraycopy(other.lost, 0, lost, 0, MOST_BOARDS);
            System.arraycopy(other.thinks, 0, thinks, 0, MOST_THINKS);
            System.arraycopy(other.lawStart, 0, lawStart, 0, LAWS * MOST_BOARDS);
        }

        /** What a board's law says of the facts that the code was told last. */
        int ask(int law, int board) {
            int start = lawStart[law * MOST_BOARDS + board];
            int value = start == NONE ? UNTOLD[law] : code.valueOf(start);
            return Math.max(LEAST[law], Math.min(MOST[law], value));
        }
    }

    /** One way the boards stand: what has come of a plan, and what is otherwise than it tells. */
    private static final class Play {
        private final Plan plan;
        final int[] left = new int[MOST_BOARDS];
        final int[] ready = new int[MOST_BOARDS];
        final int[] ended = new int[MOST_BOARDS];
        final int[] seat = new int[MOST_BOARDS];
        /** How much later than its law says each board answers. */
        final int[] later = new int[MOST_BOARDS];
        /** The board that answers at once; NONE: there is none. */
        int hasty;
        int minute;
        int spot;
        int won;
        boolean fell;

        Play(Plan plan) {
            this.plan = plan;
            setOut();
        }

        /** All is as by the text, at minute 0. */
        void setOut() {
            minute = 0;
            spot = 0;
            won = 0;
            fell = false;
            hasty = NONE;
            for (int b = 0; b < MOST_BOARDS; b++) {
                left[b] = b < plan.boards ? plan.moves[b] : 0;
                ready[b] = 0;
                ended[b] = 0;
                seat[b] = b;
                later[b] = 0;
            }
        }

        void copyFrom(Play other) {
            minute = other.minute;
            spot = other.spot;
            won = other.won;
            fell = other.fell;
            hasty = other.hasty;
            System.arraycopy(other.left, 0, left, 0, MOST_BOARDS);
            System.arraycopy(other.ready, 0, ready, 0, MOST_BOARDS);
            System.arraycopy(other.ended, 0, ended, 0, MOST_BOARDS);
            System.arraycopy(other.seat, 0, seat, 0, MOST_BOARDS);
            System.arraycopy(other.later, 0, later, 0, MOST_BOARDS);
        }

        /** Writes down all that doing something can change. */
        void writeTo(int[] rows, int at) {
            if (at < 0 || at + ROW > rows.length) {
                return;
            }
            rows[at] = minute;
            rows[at + 1] = spot;
            rows[at + 2] = won;
            rows[at + 3] = fell ? 1 : 0;
            System.arraycopy(left, 0, rows, at + 4, MOST_BOARDS);
            System.arraycopy(ready, 0, rows, at + 4 + MOST_BOARDS, MOST_BOARDS);
            System.arraycopy(ended, 0, rows, at + 4 + 2 * MOST_BOARDS, MOST_BOARDS);
        }

        void readFrom(int[] rows, int at) {
            if (at < 0 || at + ROW > rows.length) {
                return;
            }
            minute = rows[at];
            spot = rows[at + 1];
            won = rows[at + 2];
            fell = rows[at + 3] == 1;
            System.arraycopy(rows, at + 4, left, 0, MOST_BOARDS);
            System.arraycopy(rows, at + 4 + MOST_BOARDS, ready, 0, MOST_BOARDS);
            System.arraycopy(rows, at + 4 + 2 * MOST_BOARDS, ended, 0, MOST_BOARDS);
        }

        boolean isOpen(int board) {
            return left[board] > 0 && ended[board] == 0;
        }

        int openBoards() {
            int open = 0;
            for (int b = 0; b < plan.boards; b++) {
                open += isOpen(b) ? 1 : 0;
            }
            return open;
        }

        boolean isOver() {
            return fell || minute >= plan.clock || openBoards() == 0;
        }

        int made(int board) {
            return plan.moves[board] - left[board];
        }

        int stepsTo(int board) {
            int apart = Math.abs(seat[board] - seat[spot]);
            return Math.min(apart, plan.boards - apart);
        }

        /** When he could begin to think at a board. */
        int soonest(int board) {
            return Math.max(minute + plan.step * stepsTo(board), ready[board]);
        }

        /** What a board's law says if he began to think there so long at this minute. */
        int ask(int law, int board, int start, int minutes) {
            int idle = start - ready[board];
            plan.code.setFacts(minutes, made(board), start, idle, left[board], won);
            return plan.ask(law, board);
        }

        /** What a move at a board would bring to what is won: its worth, or the fallen flag. */
        int gainOf(int board, int minutes) {
            int start = soonest(board);
            boolean falls = start + minutes > plan.clock;
            return falls ? -plan.flag : ask(Plan.WORTH, board, start, minutes);
        }

        /** A move for which he begins to think at this minute, which is not ahead of soonest. */
        int makeMove(int board, int start, int minutes) {
            int end = start + minutes;
            if (end > plan.clock) {
                dropFlag(board);
                return FLAG_FELL;
            }
            // Both laws are asked of how all stands ahead of the move, so ahead of any change.
            int worth = ask(Plan.WORTH, board, start, minutes);
            int answer = board == hasty ? 0 : ask(Plan.ANSWER, board, start, minutes);
            won += worth;
            left[board]--;
            ready[board] = end + answer + later[board];
            minute = end;
            spot = board;
            return DONE;
        }

        /** 0 it is no draw, 1 it is one, 2 the flag fell. */
        int makeOffer(int board) {
            int asked = soonest(board);
            if (asked > plan.clock) {
                dropFlag(board);
                return 2;
            }
            int draw = ask(Plan.DRAW, board, asked, 0);
            spot = board;
            if (draw > 0) {
                minute = asked;
                won += draw;
                ended[board] = BY_DRAW;
                return 1;
            }
            minute = Math.min(asked + 1, plan.clock);
            return 0;
        }

        void letGo(int board) {
            won -= plan.lost[board];
            ended[board] = BY_LETTING_GO;
        }

        private void dropFlag(int board) {
            fell = true;
            minute = plan.clock;
            spot = board;
            won -= plan.flag;
        }
    }

    /** What would be: tries things on a play of its own, so that nothing happens. */
    private static final class Guide {
        private final Plan plan;
        private final Play now;
        private final Play trial;
        private final int[] saved = new int[MOST_DEPTH * ROW];
        private final int[] row = new int[MOST_DEPTH];
        final int[] bestRow = new int[MOST_DEPTH];
        int bestLength;
        int bestRowWon;
        /** The depth by which bestRow was found; NONE: it must be found anew. */
        private int depthFound;
        private int wanted;
        private final int[] order = new int[MOST_BOARDS];
        final int[] bestOrder = new int[MOST_BOARDS];
        int bestOrderWon;
        /** The rule and the minutes by which bestOrder was found; NONE: it must be found anew. */
        private int seatsFound;
        private final int[] shareWon = new int[1 << MOST_BOARDS];
        /** The answer: what is won, and by which of the ways that were tried. */
        int won;
        int which;
        private boolean found;

        Guide(Plan plan, Play now) {
            this.plan = plan;
            this.now = now;
            this.trial = new Play(plan);
            this.depthFound = NONE;
            this.seatsFound = NONE;
        }

        /** Rows and seats are dear and asked for piece by piece, so they are kept while they hold. */
        void playChanges() {
            depthFound = NONE;
        }

        void textChanges() {
            depthFound = NONE;
            seatsFound = NONE;
        }

        /** Of all rows of so many moves the best one. */
        void findRow(int depth) {
            if (depthFound == depth) {
                return;
            }
            trial.copyFrom(now);
            wanted = depth;
            found = false;
            tryRows(0);
            depthFound = depth;
        }

        private void tryRows(int depth) {
            if (depth >= wanted || depth >= MOST_DEPTH || trial.isOver()) {
                keepRow(depth, trial.won);
                return;
            }
            // A later row must bring more than the one kept, and no move brings over MOST_WORTH.
            if (found && trial.won + MOST_WORTH * (wanted - depth) <= bestRowWon) {
                return;
            }
            trial.writeTo(saved, depth * ROW);
            for (int b = 0; b < plan.boards; b++) {
                if (trial.isOpen(b)) {
                    tryMovesAt(b, depth);
                }
            }
        }

        private void tryMovesAt(int board, int depth) {
            for (int t = 0; t < plan.thinkCount; t++) {
                row[depth] = 10 * board + t;
                if (depth == wanted - 1) {
                    keepRow(wanted, trial.won + trial.gainOf(board, plan.thinks[t]));
                } else {
                    trial.makeMove(board, trial.soonest(board), plan.thinks[t]);
                    tryRows(depth + 1);
                    trial.readFrom(saved, depth * ROW);
                }
            }
        }

        private void keepRow(int length, int rowWon) {
            if (found && rowWon <= bestRowWon) {
                return;
            }
            found = true;
            bestRowWon = rowWon;
            bestLength = length;
            System.arraycopy(row, 0, bestRow, 0, MOST_DEPTH);
        }

        /** What is won by a rule from now on, and when all is over. */
        void findEnd(int rule, int minutes) {
            trial.copyFrom(now);
            follow(rule, minutes);
            won = trial.won;
            which = trial.minute;
        }

        /** Of all rules with all of THINKS the best; which: MOST_THINKS * the rule + the think. */
        void findRule() {
            found = false;
            for (int rule = 0; rule < RULES; rule++) {
                for (int t = 0; t < plan.thinkCount; t++) {
                    trial.copyFrom(now);
                    follow(rule, plan.thinks[t]);
                    keepMost(trial.won, rule * MOST_THINKS + t);
                }
            }
        }

        void findDrops(int rule, int minutes) {
            found = false;
            for (int count = 0; count <= plan.boards; count++) {
                for (int bits = 0; bits < 1 << plan.boards; bits++) {
                    if (Integer.bitCount(bits) == count && areOpen(bits)) {
                        trial.copyFrom(now);
                        letGoAll(bits);
                        follow(rule, minutes);
                        keepMost(trial.won, bits);
                    }
                }
            }
        }

        private boolean areOpen(int bits) {
            for (int b = 0; b < plan.boards; b++) {
                if (isIn(b, bits) && !now.isOpen(b)) {
                    return false;
                }
            }
            return true;
        }

        private boolean isIn(int board, int bits) {
            return (bits >> board & 1) == 1;
        }

        private void letGoAll(int bits) {
            for (int b = 0; b < plan.boards; b++) {
                if (isIn(b, bits)) {
                    trial.letGo(b);
                }
            }
        }

        void findOffer(int rule, int minutes) {
            found = false;
            trial.copyFrom(now);
            follow(rule, minutes);
            keepMost(trial.won, NOT_SO);
            if (now.isOver()) {
                return;
            }
            for (int b = 0; b < plan.boards; b++) {
                if (now.isOpen(b)) {
                    trial.copyFrom(now);
                    trial.makeOffer(b);
                    follow(rule, minutes);
                    keepMost(trial.won, b);
                }
            }
        }

        int hasteOf(int board, int rule, int minutes) {
            findEnd(rule, minutes);
            trial.copyFrom(now);
            trial.hasty = board;
            follow(rule, minutes);
            return trial.won - won;
        }

        /** The longest he may think at an open board; NOT_SO if the flag falls all the same. */
        int spareAt(int board, int rule, int minutes) {
            for (int n = MOST_THINK; n >= 0; n--) {
                trial.copyFrom(now);
                trial.makeMove(board, trial.soonest(board), n);
                follow(rule, minutes);
                if (!trial.fell) {
                    return n;
                }
            }
            return NOT_SO;
        }

        void findAgreed(int a, int b, int rule, int minutes) {
            found = false;
            for (int laterA = 0; laterA <= MOST_LATER; laterA++) {
                for (int laterB = 0; laterB <= MOST_LATER; laterB++) {
                    trial.copyFrom(now);
                    trial.later[a] = laterA;
                    trial.later[b] = laterB;
                    follow(rule, minutes);
                    // They want the least: the most of what he loses.
                    keepMost(-trial.won, 10 * laterA + laterB);
                }
            }
            won = -won;
        }

        void findSeats(int rule, int minutes) {
            int sought = rule * (MOST_THINK + 1) + minutes;
            if (seatsFound == sought) {
                return;
            }
            for (int k = 0; k < MOST_BOARDS; k++) {
                order[k] = k;
            }
            boolean isLast = false;
            for (int n = 0; n < ORDERS && !isLast; n++) {
                trial.setOut();
                for (int k = 0; k < plan.boards; k++) {
                    trial.seat[order[k]] = k;
                }
                trial.spot = order[0];
                follow(rule, minutes);
                if (n == 0 || trial.won > bestOrderWon) {
                    bestOrderWon = trial.won;
                    System.arraycopy(order, 0, bestOrder, 0, MOST_BOARDS);
                }
                isLast = !orderNext();
            }
            seatsFound = sought;
        }

        /** Goes on to the next order by numbers; false: there is none. */
        private boolean orderNext() {
            int i = plan.boards - 2;
            while (i >= 0 && order[i] > order[i + 1]) {
                i--;
            }
            if (i < 0) {
                return false;
            }
            int j = plan.boards - 1;
            while (j > i + 1 && order[j] < order[i]) {
                j--;
            }
            swapSeats(i, j);
            for (int low = i + 1, high = plan.boards - 1; low < high; low++, high--) {
                swapSeats(low, high);
            }
            return true;
        }

        private void swapSeats(int i, int j) {
            int other = order[i];
            order[i] = order[j];
            order[j] = other;
        }

        void findShares(int rule, int minutes) {
            int all = (1 << plan.boards) - 1;
            for (int bits = 0; bits <= all; bits++) {
                shareWon[bits] = wonWith(bits, rule, minutes);
            }
            found = false;
            for (int bits = 0; bits <= all; bits++) {
                keepMost(shareWon[bits] + shareWon[all - bits], bits);
            }
        }

        /** What one master wins who has only these boards. */
        private int wonWith(int bits, int rule, int minutes) {
            if (bits == 0) {
                return 0;
            }
            trial.setOut();
            for (int b = plan.boards - 1; b >= 0; b--) {
                if (isIn(b, bits)) {
                    trial.spot = b;
                } else {
                    trial.ended[b] = NOT_HIS;
                }
            }
            follow(rule, minutes);
            return trial.won;
        }

        private void keepMost(int triedWon, int tried) {
            if (!found || triedWon > won) {
                found = true;
                won = triedWon;
                which = tried;
            }
        }

        /** Plays the trial by a rule till all is over. */
        private void follow(int rule, int minutes) {
            for (int n = 0; n <= MOST_BOARDS * MOST_MOVES && !trial.isOver(); n++) {
                int board = choose(rule, minutes);
                if (board == NONE) {
                    return;
                }
                trial.makeMove(board, trial.soonest(board), minutes);
            }
        }

        private int choose(int rule, int minutes) {
            int chosen = NONE;
            int most = 0;
            for (int b = 0; b < plan.boards; b++) {
                if (!trial.isOpen(b)) {
                    continue;
                }
                int merit = 0;
                if (rule == SOONEST) {
                    merit = -trial.soonest(b);
                } else if (rule == MOST_LEFT) {
                    merit = trial.left[b];
                } else if (rule == READY_FIRST) {
                    merit = -trial.ready[b];
                } else {
                    merit = trial.ask(Plan.WORTH, b, trial.soonest(b), minutes);
                }
                if (chosen == NONE || merit > most) {
                    chosen = b;
                    most = merit;
                }
            }
            return chosen;
        }
    }

    /** What was told of when moves were done, and by how many rows it can have been so. */
    private static final class Witness {
        private final Plan plan;
        private final Play trial;
        private final int[] boards = new int[MOST_TOLD];
        private final int[] minutes = new int[MOST_TOLD];
        private final int[] saved = new int[MOST_TOLD * ROW];
        int size;

        Witness(Plan plan) {
            this.plan = plan;
            this.trial = new Play(plan);
        }

        int add(int board, int minute) {
            if (size >= MOST_TOLD) {
                return NONE;
            }
            boards[size] = board;
            minutes[size] = minute;
            size++;
            return size - 1;
        }

        int rowsThatFit(int known) {
            trial.setOut();
            return rowsFrom(0, known);
        }

        private int rowsFrom(int told, int known) {
            if (told >= known || told >= MOST_TOLD) {
                return 1;
            }
            int board = boards[told];
            if (trial.isOver() || !trial.isOpen(board)) {
                return 0;
            }
            trial.writeTo(saved, told * ROW);
            int rows = 0;
            for (int t = 0; t < plan.thinkCount; t++) {
                int start = minutes[told] - plan.thinks[t];
                if (canThink(board, start, minutes[told])) {
                    trial.makeMove(board, start, plan.thinks[t]);
                    rows += rowsFrom(told + 1, known);
                    trial.readFrom(saved, told * ROW);
                }
            }
            return rows;
        }

        /** Whether he can think at a board from start to end, be it that he waits there ahead. */
        private boolean canThink(int board, int start, int end) {
            int soonest = trial.soonest(board);
            boolean waitsTillClock = start > soonest && start >= plan.clock;
            return start >= soonest && end <= plan.clock && !waitsTillClock;
        }
    }

    /** The plays from which the last things were done, in a ring. */
    private static final class Past {
        private final int[] rows = new int[MOST_UNDONE * ROW];
        private int next;
        int size;

        void push(Play play) {
            play.writeTo(rows, next * ROW);
            next = (next + 1) % MOST_UNDONE;
            size = Math.min(size + 1, MOST_UNDONE);
        }

        boolean pop(Play play) {
            if (size == 0) {
                return false;
            }
            next = (next + MOST_UNDONE - 1) % MOST_UNDONE;
            size--;
            play.readFrom(rows, next * ROW);
            return true;
        }

        void clear() {
            next = 0;
            size = 0;
        }
    }

    /** The plays that are held. */
    private static final class Slots {
        private final int[] rows = new int[SLOTS * ROW];
        final boolean[] held = new boolean[SLOTS];

        void put(int slot, Play play) {
            if (slot >= 0 && slot < SLOTS) {
                play.writeTo(rows, slot * ROW);
                held[slot] = true;
            }
        }

        void take(int slot, Play play) {
            play.readFrom(rows, slot * ROW);
        }

        int used() {
            int used = 0;
            for (int slot = 0; slot < SLOTS; slot++) {
                used += held[slot] ? 1 : 0;
            }
            return used;
        }

        void clear() {
            for (int slot = 0; slot < SLOTS; slot++) {
                held[slot] = false;
            }
        }
    }
}
