import java.util.Random;

/** Plays runs of calls on OneClock and on the slow Model: each answer must be the same. */
public final class RandomRunsTest {
    private static final int[] ODD = {Integer.MIN_VALUE, -1000000, -2, -1, 6, 7, 61, 499, 500, 501, 512,
        Integer.MAX_VALUE};

    private final Random random;
    private final RandomTexts texts;
    private final OneClock clock = new OneClock();
    private final Model model = new Model();
    private int wrong = 0;
    private int calls = 0;
    private StringBuilder log = new StringBuilder();

    private RandomRunsTest(long seed) {
        random = new Random(seed);
        texts = new RandomTexts(random);
    }

    public static void main(String[] args) {
        int runs = args.length > 0 ? Integer.parseInt(args[0]) : 600;
        int from = args.length > 1 ? Integer.parseInt(args[1]) : 1;
        int wrongRuns = 0;
        long calls = 0;
        for (int seed = from; seed < from + runs && wrongRuns < 5; seed++) {
            RandomRunsTest run = new RandomRunsTest(seed);
            run.play();
            calls += run.calls;
            if (run.wrong > 0) {
                wrongRuns++;
                System.out.println("seed " + seed + ":\n" + run.log);
            }
        }
        System.out.println(calls + " random calls, " + wrongRuns + " runs wrong");
        if (wrongRuns > 0) {
            System.exit(1);
        }
    }

    private boolean oneIn(int n) {
        return random.nextInt(n) == 0;
    }

    private int number(int below) {
        return oneIn(25) ? ODD[random.nextInt(ODD.length)] : random.nextInt(below);
    }

    private void same(String call, int got, int due) {
        calls++;
        if (got != due && wrong++ == 0) {
            log.append(call).append(" answered ").append(got).append(", due is ").append(due).append('\n');
        } else if (wrong == 0) {
            log.append(call).append(" -> ").append(got).append('\n');
        }
    }

    private void same(String call, boolean got, int due) {
        same(call, got ? 1 : 0, due);
    }

    private void play() {
        boolean few = oneIn(2);
        if (!oneIn(20)) {
            readOne(few);
        }
        for (int n = 0; n < 200 && wrong == 0; n++) {
            if (oneIn(40)) {
                readOne(few);
            }
            for (int back = 0; model.isOver() && model.count(11) > 0 && back < 4; back++) {
                same("undo", clock.undo(), model.undo());
            }
            callOne();
            if (oneIn(6)) {
                look();
            }
        }
    }

    private void readOne(boolean few) {
        String text = texts.joined(oneIn(3) ? texts.wrong() : texts.right(few));
        byte[] bytes = Tapes.bytes(text);
        for (int n = 0; bytes.length > 0 && oneIn(15) && n < 3; n++) {
            bytes[random.nextInt(bytes.length)] = (byte) random.nextInt(256);
        }
        for (int from = 0; from < bytes.length; from += 20) {
            int[] five = Tapes.twenty(bytes, from);
            same("feed", clock.feed(five[0], five[1], five[2], five[3], five[4]), model.feed(five));
        }
        int more = (20 - bytes.length % 20) % 20;
        same("back " + more, clock.back(more), model.back(more));
        if (oneIn(10)) {
            int n = number(30);
            same("back " + n, clock.back(n), model.back(n));
        }
        log.append(text).append('\n');
        same("read", clock.read(), model.read());
        same("place", clock.place(), model.place());
        look();
    }

    private void look() {
        int what = number(14);
        same("count " + what, clock.count(what), model.count(what));
        same("count 1", clock.count(1), model.count(1));
        same("count 2", clock.count(2), model.count(2));
        int b = number(7);
        int of = number(7);
        same("board " + b + " " + of, clock.board(b, of), model.board(b, of));
        same("sum", clock.sum(), model.sum());
    }

    private void callOne() {
        int b = number(Math.max(1, model.count(0)));
        int i = number(model.count(6));
        int rule = number(4);
        int what = number(2);
        switch (random.nextInt(13)) {
            case 0:
            case 1:
            case 2:
            case 3:
                act(b, i);
                break;
            case 4:
                lookAhead(b);
                break;
            case 5:
                same("rule " + rule + " " + i + " " + what, clock.rule(rule, i, what), model.rule(rule, i, what));
                what = number(3);
                same("bestRule " + what, clock.bestRule(what), model.bestRule(what));
                break;
            case 6:
                String args = rule + " " + i + " " + what;
                same("dropBest " + args, clock.dropBest(rule, i, what), model.dropBest(rule, i, what));
                same("offerBest " + args, clock.offerBest(rule, i, what), model.offerBest(rule, i, what));
                break;
            case 7:
                args = b + " " + rule + " " + i;
                same("haste " + args, clock.haste(b, rule, i), model.haste(b, rule, i));
                same("spare " + args, clock.spare(b, rule, i), model.spare(b, rule, i));
                break;
            case 8:
                int a = number(Math.max(1, model.count(0)));
                same("agreed " + a + " " + b + " " + rule + " " + i + " " + what,
                    clock.agreed(a, b, rule, i, what), model.agreed(a, b, rule, i, what));
                break;
            case 9:
                arrange(rule, i, what);
                break;
            case 10:
            case 11:
                tellSome(b);
                break;
            default:
                keep();
        }
    }

    private void act(int b, int i) {
        switch (random.nextInt(12)) {
            case 0:
                same("offer " + b, clock.offer(b), model.offer(b));
                break;
            case 1:
                same("drop " + b, clock.drop(b), model.drop(b));
                break;
            case 2:
                int n = oneIn(10) ? number(520) : number(6);
                same("pause " + n, clock.pause(n), model.pause(n));
                break;
            case 3:
                same("undo", clock.undo(), model.undo());
                break;
            default:
                same("move " + b + " " + i, clock.move(b, i), model.move(b, i));
        }
    }

    private void lookAhead(int b) {
        same("begins " + b, clock.begins(b), model.begins(b));
        int d = number(6);
        if (model.rows(Math.max(1, Math.min(d, 4))) < 3000) {
            if (oneIn(2)) {
                same("best " + d, clock.best(d), model.best(d));
            }
            int i = number(5);
            same("bestAt " + d + " " + i, clock.bestAt(d, i), model.bestAt(d, i));
        }
    }

    private void arrange(int rule, int i, int what) {
        String args = rule + " " + i;
        same("shared " + args + " " + what, clock.shared(rule, i, what), model.shared(rule, i, what));
        if (model.count(0) <= 4 || model.allMoves() < 12 && oneIn(5)) {
            int k = number(7);
            if (oneIn(2)) {
                same("seats " + args, clock.seats(rule, i), model.seats(rule, i));
            }
            same("seatAt " + args + " " + k, clock.seatAt(rule, i, k), model.seatAt(rule, i, k));
        }
    }

    private void tellSome(int b) {
        if (oneIn(6)) {
            same("forget", clock.forget(), model.forget());
        }
        int minute = oneIn(20) ? number(502) : number(10) + 5 * model.count(12);
        minute = oneIn(12) ? model.count(3) : minute;
        same("tell " + b + " " + minute, clock.tell(b, minute), model.tell(b, minute));
        int k = oneIn(4) ? number(6) : model.count(12);
        same("fits " + k, clock.fits(k), model.fits(k));
    }

    private void keep() {
        int slot = number(4);
        if (oneIn(2)) {
            same("hold " + slot, clock.hold(slot), model.hold(slot));
        } else {
            same("restore " + slot, clock.restore(slot), model.restore(slot));
        }
    }
}
