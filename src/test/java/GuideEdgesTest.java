/** The edges that sections III and IV and promises 14 to 28 name: what would be, and what can have been. */
public final class GuideEdgesTest extends Checks {
    private static final String SIX =
        "board a 1 0;board b 1 0;board c 1 0;board d 1 0;board e 1 0;board f 1 0;";
    private static final int[] NO_RULES = {-1, -2, 4, 5, MOST, LEAST};
    private static final int[] NO_THINKS = {-1, -2, 2, 3, 4, MOST, LEAST};
    private static final int[] NO_BOARDS = {-1, -2, 3, 4, 6, 7, MOST, LEAST};
    private static final int[] NO_HALVES = {-1, -2, 2, 3, MOST, LEAST};

    public static void main(String[] args) {
        nothingHappens();
        noSuchOnes();
        noSuchDepth();
        fewerMoves();
        bestNearClock();
        bestOfLosses();
        bestOfTheMost();
        bestOfAlike();
        bestIsFoundAnew();
        soonestRule();
        mostLeftRule();
        readyFirstRule();
        greatestWorthRule();
        rulesOfAlike();
        rulesToTheEnd();
        bestRuleOfAll();
        letGoNoneOrAll();
        letGoOfAlike();
        offerNoneOrLast();
        hasteEdges();
        spareOfOne();
        spareOfTwo();
        agreedEdges();
        agreedOfHeld();
        seatsOfOne();
        seatsOfSix();
        seatsOfAlike();
        seatsAskedInTurn();
        tryingLeavesNothing();
        sharedByNone();
        sharedBySix();
        sharedBegins();
        tells();
        forgets();
        fitsKnown();
        fitsSoonest();
        fitsNearClock();
        fitsBehindOver();
        fitsAsByTheText();
        tellAll();
    }

    private static OneClock three() {
        OneClock x = Tapes.reading("board a 2 3;board b 2 3;board c 1 3;thinks 1 2;draw b=5;worth a=time;answer b=4;step 2;clock 40;flag 6;");
        x.pause(1);
        x.move(1, 0);
        x.tell(0, 7);
        return x;
    }

    // ---------------------------------------------------------------- all of them

    private static void askAll(OneClock x) {
        x.best(3);
        x.bestAt(3, 1);
        x.bestRule(2);
        for (int rule = 0; rule < 4; rule++) {
            x.rule(rule, 1, 0);
            x.dropBest(rule, 1, 1);
            x.offerBest(rule, 1, 0);
            x.haste(1, rule, 0);
            x.spare(1, rule, 1);
            x.agreed(0, 2, rule, 1, 1);
            x.seats(rule, 0);
            x.seatAt(rule, 1, 2);
            x.shared(rule, 0, 1);
        }
        x.fits(1);
    }

    private static void nothingHappens() {
        says("III. What would be (nothing happens)");
        OneClock x = three();
        String ahead = standing(x);
        askAll(x);
        stands("nothing happens", x, ahead);
        x.move(0, 1);
        x.offer(2);
        OneClock y = three();
        y.move(0, 1);
        y.offer(2);
        stands("and goes on alike", x, standing(y));
    }

    private static void noSuchOnes() {
        says("-1000000: no such ones.");
        OneClock x = three();
        String ahead = standing(x);
        for (int rule : NO_RULES) {
            noSuchRule("rule " + rule, x, rule, 0);
        }
        for (int i : NO_THINKS) {
            noSuchRule("think " + i, x, 0, i);
        }
        for (int what : NO_HALVES) {
            due("rule what " + what, x.rule(0, 0, what), BAD);
            due("dropBest what " + what, x.dropBest(0, 0, what), BAD);
            due("offerBest what " + what, x.offerBest(0, 0, what), BAD);
            due("agreed what " + what, x.agreed(0, 1, 0, 0, what), BAD);
            due("shared what " + what, x.shared(0, 0, what), BAD);
            due("bestRule what " + what, x.bestRule(what), what == 2 ? x.rule(x.bestRule(0), x.bestRule(1), 0) : BAD);
        }
        for (int b : NO_BOARDS) {
            due("haste " + b, x.haste(b, 0, 0), BAD);
            due("spare " + b, x.spare(b, 0, 0), BAD);
            due("agreed " + b, x.agreed(b, 0, 0, 0, 0), BAD);
            due("agreed 0 " + b, x.agreed(0, b, 0, 0, 1), BAD);
            due("agreed both " + b, x.agreed(b, b, 0, 0, 0), BAD);
            due("seatAt " + b, x.seatAt(0, 0, b), OneClock.NONE);
        }
        for (int b = 0; b < 3; b++) {
            due("agreed one and the same " + b, x.agreed(b, b, 0, 0, 0), BAD);
        }
        stands("nothing happens", x, ahead);
    }

    private static void noSuchRule(String which, OneClock x, int rule, int i) {
        for (int what = 0; what < 2; what++) {
            due("rule " + which, x.rule(rule, i, what), BAD);
            due("dropBest " + which, x.dropBest(rule, i, what), BAD);
            due("offerBest " + which, x.offerBest(rule, i, what), BAD);
            due("agreed " + which, x.agreed(0, 1, rule, i, what), BAD);
            due("shared " + which, x.shared(rule, i, what), BAD);
        }
        due("haste " + which, x.haste(0, rule, i), BAD);
        due("spare " + which, x.spare(0, rule, i), BAD);
        due("seats " + which, x.seats(rule, i), BAD);
        due("seatAt " + which, x.seatAt(rule, i, 0), OneClock.NONE);
    }

    // ---------------------------------------------------------------- BEST

    private static void noSuchDepth() {
        says("NONE (looked at first): no such d, i below 0; -2: not so many.");
        OneClock x = three();
        for (int d : new int[] {0, -1, 5, 6, MOST, LEAST}) {
            due("best " + d, x.best(d), BAD);
            for (int i : new int[] {0, 1, 4, -1, MOST, LEAST}) {
                due("bestAt " + d + " " + i, x.bestAt(d, i), OneClock.NONE);
            }
        }
        for (int d = 1; d <= 4; d++) {
            due("i below 0", x.bestAt(d, -1), OneClock.NONE);
            due("i far below 0", x.bestAt(d, LEAST), OneClock.NONE);
            due("the last one of " + d, x.bestAt(d, d - 1) >= 0, true);
            due("one more of " + d, x.bestAt(d, d), -2);
            due("far more of " + d, x.bestAt(d, MOST), -2);
        }
        x.pause(500);
        due("OVER", x.bestAt(1, 0), -2);
        due("OVER, i below 0", x.bestAt(1, -1), OneClock.NONE);
        due("OVER, no such d", x.bestAt(5, 0), OneClock.NONE);
    }

    private static void fewerMoves() {
        says("of all rows of d MOVES (1 .. 4; fewer, if all is OVER by then) the greatest sum that is won behind them");
        for (int moves = 0; moves <= 5; moves++) {
            OneClock x = Tapes.reading("board a " + moves + " 0;worth a=7;");
            for (int d = 1; d <= 4; d++) {
                int made = Math.min(moves, d);
                due("of " + moves + " by " + d, x.best(d), 7 * made);
                for (int i = 0; i < 5; i++) {
                    due("its " + i, x.bestAt(d, i), i < made ? 0 : -2);
                }
            }
        }
        OneClock none = new OneClock();
        due("of no BOARDS", none.best(4), 0);
        due("its first", none.bestAt(4, 0), -2);
        OneClock most = Tapes.reading("board a 9 0;board b 9 0;board c 9 0;board d 9 0;board e 9 0;board f 9 0;thinks 0 1 2 3;"
            + "worth f=think;step 0;answer f=0;");
        due("of all there can be", most.best(4), 12);
        due("the last of them", most.bestAt(4, 0) + most.bestAt(4, 3), 53 + 53);
    }

    private static void bestNearClock() {
        says("fewer, if all is OVER by then");
        String text = "board a 9 0;thinks 5;answer a=0;flag 50;worth a=7;clock ";
        OneClock x = Tapes.reading(text + "10;");
        int[] won = {7, 14, 14, 14};
        for (int d = 1; d <= 4; d++) {
            due("just to CLOCK by " + d, x.best(d), won[d - 1]);
            due("not so many by " + d, x.bestAt(d, Math.min(d, 2)), -2);
        }
        OneClock y = Tapes.reading(text + "9;");
        int[] lost = {7, -43, -43, -43};
        for (int d = 1; d <= 4; d++) {
            due("behind CLOCK by " + d, y.best(d), lost[d - 1]);
            due("the FLAG's MOVE counts by " + d, y.bestAt(d, Math.min(d, 2) - 1), 0);
            due("none behind it by " + d, y.bestAt(d, Math.min(d, 2)), -2);
        }
        OneClock z = Tapes.reading(text + "4;");
        due("the FLAG at once", z.best(1), -50);
        due("one MOVE", z.bestAt(1, 0), 0);
    }

    private static void bestOfLosses() {
        says("the greatest sum that is won behind them");
        OneClock x = Tapes.reading("board a 9 0;board b 9 0;step 0;worth a=0-5;worth b=0-4;");
        for (int d = 1; d <= 4; d++) {
            due("he has to move, by " + d, x.best(d), -4 * d);
            due("at b", x.bestAt(d, 0), 10);
        }
        OneClock least = Tapes.reading("board a 9 0;worth a=0-9999;thinks 0;answer a=0;");
        due("the least there is", least.best(4), -4 * 999);
    }

    private static void bestOfTheMost() {
        says("WORTH, DRAW held to -999 .. 999");
        String late = "step 0;thinks 0;worth b=if move<1 then 0 else 999;board c 1 0;worth c=0-999;";
        String two = "board a 2 0;board b 2 0;worth a=%;";
        OneClock x = Tapes.reading(two.replace("%", "499") + late);
        due("999 behind nothing", x.best(2), 999);
        due("by b", x.bestAt(2, 0) * 100 + x.bestAt(2, 1), 1010);
        OneClock y = Tapes.reading(two.replace("%", "500") + late);
        due("1000 by a", y.best(2), 1000);
        due("by a alone", y.bestAt(2, 0) * 100 + y.bestAt(2, 1), 0);
        OneClock z = Tapes.reading("board a 4 0;step 0;thinks 0;worth a=9999;");
        due("the most there is", z.best(4), 4 * 999);
        String four = "board a 4 0;board b 4 0;step 0;thinks 0;answer a=0;answer b=0;worth a=if move<3 then 666 else 0;"
            + "worth b=if move<1 then 0-% else 999;";
        OneClock w = Tapes.reading(four.replace("%", "999"));
        due("1998 by either", w.best(4), 1998);
        due("alike: by a", w.bestAt(4, 0), 0);
        OneClock v = Tapes.reading(four.replace("%", "998"));
        due("1999 by b", v.best(4), 1999);
        due("by b, too", v.bestAt(4, 0), 10);
    }

    private static void bestOfAlike() {
        says("of alike ones, MOVE by MOVE, the first BOARD, then the first of THINKS.");
        OneClock x = Tapes.reading("board a 1 0;board b 1 0;board c 1 0;step 0;thinks 3 3 3 3;");
        int[] row = {0, 10, 20};
        for (int i = 0; i < 3; i++) {
            due("MOVE " + i, x.bestAt(3, i), row[i]);
            due("MOVE " + i + " by 4", x.bestAt(4, i), row[i]);
        }
        OneClock first = Tapes.reading("board a 1 0;board b 1 0;thinks 1 2;step 0;worth a=think;worth b=2;");
        due("the first BOARD ahead of the first of THINKS", first.bestAt(1, 0), 1);
        OneClock think = Tapes.reading("board a 2 0;thinks 9 1 1 9;worth a=if think<5 then 4 else 3;step 0;");
        due("the first of THINKS", think.bestAt(2, 0) * 10 + think.bestAt(2, 1), 11);
        OneClock late = Tapes.reading("board a 1 0;board b 2 0;step 0;thinks 0;worth a=5;worth b=5;");
        due("MOVE by MOVE", late.bestAt(3, 0) * 10000 + late.bestAt(3, 1) * 100 + late.bestAt(3, 2), 1010);
    }

    private static void bestIsFoundAnew() {
        says("What would be (nothing happens): BEST by d");
        OneClock x = Tapes.reading("board a 3 0;board b 3 9;step 0;worth a=2;worth b=3;draw b=1;");
        due("at first", x.best(1), 3);
        x.move(1, 0);
        due("behind a MOVE", x.best(1), 6);
        x.offer(1);
        due("behind an OFFER", x.best(1), 6);
        due("by a", x.bestAt(1, 0), 0);
        x.undo();
        due("behind undo", x.bestAt(1, 0), 10);
        x.hold(0);
        x.drop(1);
        due("behind letting go", x.best(1), 3 - 9 + 2);
        x.restore(0);
        due("behind restore", x.best(1), 6);
        due("by another d", x.best(2), 9);
        x.pause(500);
        due("behind WAIT", x.best(2), 3);
        Tapes.feed(x, "board a 1 0;worth a=8;");
        x.read();
        due("behind a text", x.best(2), 8);
        Tapes.feed(x, "board a 1 0;worth a=9;step");
        x.read();
        due("behind a FAULT", x.best(2), 8);
    }

    // ---------------------------------------------------------------- RULES

    private static void soonestRule() {
        says("0 at which he can begin soonest");
        int[] won = {9, 10, 5};
        for (int answer = 3; answer <= 5; answer++) {
            // behind a MOVE at a till 1: a begins at 1 + ANSWER, b at 5
            OneClock x = Tapes.reading("board a 2 0;board b 1 0;step 4;worth a=0;worth b=time;answer a=" + answer + ";");
            due("by ANSWER " + answer, x.rule(0, 0, 0), won[answer - 3]);
        }
    }

    private static void mostLeftRule() {
        says("1 that has the most MOVES left");
        int[][] cases = {{1, 1, 5}, {1, 2, 4 + 14}, {2, 1, 6}, {9, 1, 13}};
        for (int[] c : cases) {
            OneClock x = Tapes.reading("board a " + c[0] + " 0;board b " + c[1] + " 0;step 4;worth a=0;worth b=time;answer a=0;answer b=0;");
            due("of " + c[0] + " and " + c[1], x.rule(1, 0, 0), c[2]);
        }
    }

    private static void readyFirstRule() {
        says("2 that has been, or will be, READY first");
        int[] won = {20, 20, 12};
        for (int answer = 5; answer <= 7; answer++) {
            // a till 1, b from 5 to 6 (ready at 7); a is ready at 1 + ANSWER, he can be there at 10
            OneClock x = Tapes.reading("board a 2 0;board b 2 0;step 4;worth a=0;worth b=time;answer b=1;answer a=" + answer + ";");
            due("by ANSWER " + answer, x.rule(2, 0, 0), won[answer - 5]);
        }
    }

    private static void greatestWorthRule() {
        says("3 with the greatest WORTH (time: the minute at which he could begin, idle as it would be then)");
        int[] won = {10, 11, 11};
        for (int step = 4; step <= 6; step++) {
            for (String fact : new String[] {"time", "idle"}) {
                OneClock x = Tapes.reading("board a 1 0;board b 1 0;worth a=5;worth b=" + fact + ";step " + step + ";");
                due(fact + " by STEP " + step, x.rule(3, 0, 0), won[step - 4]);
            }
        }
        OneClock behind = Tapes.reading("board a 1 0;board b 1 0;worth a=98;worth b=90+time;step 9;clock 8;flag 7;");
        due("behind CLOCK, too", behind.rule(3, 0, 0), -7);
        due("till CLOCK", behind.rule(3, 0, 1), 8);
        OneClock held = Tapes.reading("board a 1 0;board b 1 0;worth a=999;worth b=9999-time;step 1;clock 1;");
        due("as it is held, alike", held.rule(3, 0, 0), 999);
        OneClock less = Tapes.reading("board a 1 0;board b 1 0;worth a=0-9;worth b=0-8;step 0;clock 1;");
        due("the greatest below 0", less.rule(3, 0, 0), -8);
    }

    private static void rulesOfAlike() {
        says("of alike ones the first. What is won then; when all is OVER.");
        OneClock x = Tapes.reading("board z 0 0;board a 1 0;board b 1 0;step 0;worth a=time+5;worth b=5;");
        OneClock y = Tapes.reading("board a 1 0;board b 1 0;board c 1 0;step 0;worth a=time+5;worth b=time+5;worth c=5;");
        for (int rule = 0; rule < 4; rule++) {
            due("two alike by " + rule, x.rule(rule, 0, 0), 10);
            due("their minute", x.rule(rule, 0, 1), 2);
        }
        for (int rule = 0; rule < 3; rule++) {
            due("three alike by " + rule, y.rule(rule, 0, 0), 5 + 6 + 5);
        }
        // b is worth 6 from minute 1 on
        due("three alike by 3", y.rule(3, 0, 0), 5 + 6 + 5);
    }

    private static void rulesToTheEnd() {
        says("RULES, of one of THINKS, to the end");
        String all = "";
        for (char b = 'a'; b <= 'f'; b++) {
            all += "board " + b + " 9 0;answer " + b + "=0;";
        }
        OneClock x = Tapes.reading(all + "step 0;thinks 0 9;clock 500;flag 100;");
        OneClock y = Tapes.reading(all + "step 0;thinks 9;clock 486;flag 100;");
        OneClock z = Tapes.reading(all + "step 0;thinks 9;clock 485;flag 100;");
        for (int rule = 0; rule < 4; rule++) {
            due("all 54 MOVES by " + rule, x.rule(rule, 0, 0), 54);
            due("at once", x.rule(rule, 0, 1), 0);
            due("all 54 of 9 minutes by " + rule, x.rule(rule, 1, 0), 54);
            due("their end", x.rule(rule, 1, 1), 486);
            due("the last one just to CLOCK by " + rule, y.rule(rule, 0, 0), 54);
            due("CLOCK", y.rule(rule, 0, 1), 486);
            due("the last one behind CLOCK by " + rule, z.rule(rule, 0, 0), 53 - 100);
            due("CLOCK, too", z.rule(rule, 0, 1), 485);
        }
        OneClock none = new OneClock();
        due("without BOARDS", none.rule(3, 0, 0), 0);
        due("at minute 0", none.rule(3, 0, 1), 0);
    }

    private static void bestRuleOfAll() {
        says("of alike ones the first RULE, then the first of THINKS.");
        // 3 goes to b first: think + 5 and then think; the others win 0 and 5
        OneClock last = Tapes.reading("board a 1 0;board b 1 0;step 0;thinks 0 1 2 3;worth a=time;worth b=think+5-time;");
        due("the last RULE", last.bestRule(0), 3);
        due("the last of THINKS", last.bestRule(1), 3);
        due("won by them", last.bestRule(2), 11);
        OneClock alike = Tapes.reading("board a 2 0;board b 2 0;thinks 0 0 0 0;");
        due("all alike", alike.bestRule(0) * 10 + alike.bestRule(1), 0);
        OneClock think = Tapes.reading("board a 2 0;thinks 5 7 7 6;worth a=think;");
        due("the first of alike THINKS", think.bestRule(0) * 10 + think.bestRule(1), 1);
        due("won by them", think.bestRule(2), 14);
        OneClock rule = Tapes.reading("board a 1 0;board b 2 0;thinks 1 0 1;worth a=time;step 0;answer b=0;");
        // b first (1 by its MOVES, 3 by its WORTH), then a at 1; 0 and 2 go to a first, at 0
        due("the first RULE of alike ones", rule.bestRule(0), 1);
        due("the first of THINKS by it", rule.bestRule(1), 0);
        due("won by it", rule.bestRule(2), 3);
        OneClock none = new OneClock();
        due("without BOARDS", none.bestRule(0) * 100 + none.bestRule(1) * 10 + none.bestRule(2), 0);
        OneClock less = Tapes.reading("board a 2 0;thinks 4 2;worth a=0-think;");
        due("below 0", less.bestRule(2), -4);
        due("by the second", less.bestRule(1), 1);
    }

    // ---------------------------------------------------------------- LET GO BEST, OFFER BEST

    private static void letGoNoneOrAll() {
        says("LET GO BEST: which OPEN BOARDS to let go now so that a RULE then brings most");
        String six = SIX.replace(" 0;", " 1;");
        StringBuilder laws = new StringBuilder();
        for (char b = 'a'; b <= 'f'; b++) {
            laws.append("worth ").append(b).append("=0-%;");
        }
        OneClock all = Tapes.reading(six + laws.toString().replace("%", "2"));
        due("all of them", all.dropBest(0, 0, 1), 63);
        due("won by all", all.dropBest(0, 0, 0), -6);
        OneClock none = Tapes.reading(six + laws.toString().replace("%", "1"));
        due("alike: none of them", none.dropBest(0, 0, 1), 0);
        due("won by none", none.dropBest(0, 0, 0), -6);
        all.drop(0);
        all.move(5, 0);
        due("of OPEN ones", all.dropBest(0, 0, 1), 30);
        due("won with what is lost", all.dropBest(0, 0, 0), -3 - 4);
        OneClock closed = Tapes.reading("board a 0 0;board b 1 0;worth b=0-9;");
        due("not one without MOVES", closed.dropBest(0, 0, 1), 2);
        due("without BOARDS", new OneClock().dropBest(0, 0, 1), 0);
    }

    private static void letGoOfAlike() {
        says("of alike ones the fewest, then the least bits.");
        // four of 60 minutes can be done without the FLAG
        String text = SIX + "step 0;thinks 60;clock 299;";
        OneClock free = Tapes.reading(text);
        due("a FLAG of 0: none", free.dropBest(0, 0, 1), 0);
        due("won by none", free.dropBest(0, 0, 0), 4);
        OneClock dear = Tapes.reading(text + "flag 1;");
        due("a FLAG of 1: two, the least bits", dear.dropBest(0, 0, 1), 3);
        due("won by two", dear.dropBest(0, 0, 0), 4);
        OneClock clock = Tapes.reading(text + "flag 1;clock 300;");
        due("just to CLOCK: none", clock.dropBest(0, 0, 1), 0);
        due("won to CLOCK", clock.dropBest(0, 0, 0), 5);
        OneClock fewest = Tapes.reading(SIX + "step 0;worth a=0-1;worth b=0-1;worth f=0-2;");
        due("all that cost something", fewest.dropBest(0, 0, 1), 35);
        // one of three can be done in time, and any two of them are alike
        OneClock one = Tapes.reading("board a 1 0;board b 1 0;board c 1 0;step 0;thinks 2;clock 3;flag 9;worth a=0;worth b=0;worth c=0;");
        due("two of the least bits", one.dropBest(0, 0, 1), 3);
        // c is worth 1 without a and b; without c a and b are worth 2, and 1 is lost
        OneClock big = Tapes.reading("board a 1 0;board b 1 0;board c 1 1;step 0;worth c=if sum<1 then 1 else 0-5;");
        due("one of the most bits ahead of two", big.dropBest(0, 0, 1), 4);
        due("won by it", big.dropBest(0, 0, 0), 1);
    }

    private static void offerNoneOrLast() {
        says("of alike ones none ahead of all, then the first.");
        OneClock none = Tapes.reading(SIX + "step 0;draw f=1;draw a=1;");
        due("alike: none", none.offerBest(0, 0, 1), -2);
        due("won by none", none.offerBest(0, 0, 0), 6);
        OneClock last = Tapes.reading(SIX + "step 0;draw f=2;draw a=1;");
        due("the last BOARD", last.offerBest(0, 0, 1), 5);
        due("won by it", last.offerBest(0, 0, 0), 7);
        OneClock first = Tapes.reading(SIX + "step 0;draw f=2;draw e=2;draw b=2;");
        due("the first of alike ones", first.offerBest(0, 0, 1), 1);
        OneClock nowhere = Tapes.reading("board a 1 0;board b 1 0;draw a=9;draw b=9;");
        nowhere.drop(0);
        due("OPEN ones alone", nowhere.offerBest(0, 0, 1), 1);
        nowhere.move(1, 0);
        due("none is OPEN", nowhere.offerBest(0, 0, 1), -2);
        due("without BOARDS", new OneClock().offerBest(0, 0, 1), -2);
        OneClock clock = Tapes.reading("board a 1 0;board b 1 0;step 5;clock 5;draw b=9;flag 20;thinks 6;");
        due("just at CLOCK", clock.offerBest(0, 0, 0), 9);
        due("there", clock.offerBest(0, 0, 1), 1);
        clock.pause(1);
        due("behind CLOCK", clock.offerBest(0, 0, 1), -2);
        due("the FLAG all the same", clock.offerBest(0, 0, 0), -20);
    }

    // ---------------------------------------------------------------- HASTE, SPARE

    private static void hasteEdges() {
        says("HASTE: how much more a RULE brings if a BOARD answers at once from now on (ANSWER 0; below 0: how much less).");
        OneClock more = Tapes.reading("board a 3 0;board b 0 0;worth a=0-time;");
        due("more, though no ANSWER is told", more.haste(0, 0, 0), 6 - 3);
        due("not OPEN", more.haste(1, 0, 0), 0);
        OneClock less = Tapes.reading("board a 3 0;worth a=time;");
        due("less", less.haste(0, 0, 0), 3 - 6);
        OneClock none = Tapes.reading("board a 3 0;worth a=time;answer a=0-5;");
        due("it answers at once already", none.haste(0, 0, 0), 0);
        OneClock runs = Tapes.reading("board a 2 0;worth a=time;answer a=20;");
        due("from now on", runs.haste(0, 0, 0), 1 - 21);
        runs.move(0, 0);
        due("what is ahead stays", runs.haste(0, 0, 0), 0);
        OneClock flag = Tapes.reading("board a 2 0;answer a=99;clock 99;flag 40;");
        due("the FLAG does not fall by it", flag.haste(0, 0, 0), 2 - (1 - 40));
        flag.drop(0);
        due("OVER", flag.haste(0, 0, 0), 0);
    }

    private static void spareOfOne() {
        says("SPARE: the longest (0 .. 60 minutes, whatever THINKS are) that he may think at an OPEN BOARD now");
        for (int clock : new int[] {1, 2, 30, 59, 60, 61, 62, 120, 500}) {
            OneClock x = Tapes.reading("board a 1 0;thinks 7;clock " + clock + ";");
            due("by CLOCK " + clock, x.spare(0, 0, 0), Math.min(60, clock));
            x.pause(clock - 1);
            due("one minute ahead of CLOCK " + clock, x.spare(0, 0, 0), 1);
            if (clock > 1) {
                x.pause(1);
                due("at CLOCK " + clock, x.spare(0, 0, 0), -2);
            }
        }
        OneClock far = Tapes.reading("board a 1 0;board b 1 0;step 9;clock 9;");
        due("he comes at CLOCK", far.spare(1, 0, 0), 0);
        far.pause(1);
        due("he comes behind CLOCK", far.spare(1, 0, 0), -2);
        OneClock done = Tapes.reading("board a 1 0;board b 1 0;");
        done.move(0, 0);
        due("not OPEN", done.spare(0, 0, 0), -2);
    }

    private static void spareOfTwo() {
        says("all by a RULE behind that, so that the FLAG does not fall.");
        OneClock x = Tapes.reading("board a 1 0;board b 1 0;step 9;thinks 60;clock 100;");
        // behind a he is at b 9 minutes later, for 60; and 60 minutes at a end all if they end at CLOCK
        int[] spare = new int[101];
        for (int minute = 0; minute <= 100; minute++) {
            int left = 100 - minute;
            spare[minute] = left == 0 ? -2 : left <= 60 ? left : left >= 69 ? Math.min(60, left - 69) : -2;
        }
        for (int minute = 0; minute < 100; minute++) {
            due("at minute " + minute, x.spare(0, 0, 0), spare[minute]);
            x.pause(1);
        }
        due("the least of them", spare[31], 0);
        due("none behind it", spare[32], -2);
        due("none ahead of the last hour", spare[39], -2);
        due("the whole of the last hour", spare[40], 60);
    }

    // ---------------------------------------------------------------- AGREED

    private static void agreedEdges() {
        says("AGREED: two BOARDS whose ANSWERS are each later by so much (0 .. 9 minutes each, always)");
        String two = "board a 2 0;board b 2 0;step 0;thinks 0;";
        String[] laws = {"worth a=time;worth b=time;", "worth a=0-time;worth b=time;", "worth a=time;worth b=0-time;",
            "worth a=0-time;worth b=0-time;", "worth a=0;worth b=0;"};
        int[] due = {0, 90, 9, 99, 0};
        int[] won = {2, -10 + 1, 1 - 10, -20, 0};
        for (int k = 0; k < laws.length; k++) {
            OneClock x = Tapes.reading(two + laws[k]);
            due("agreed by " + laws[k], x.agreed(0, 1, 0, 0, 1), due[k]);
            due("turned round by " + laws[k], x.agreed(1, 0, 0, 0, 1), due[k] % 10 * 10 + due[k] / 10);
            due("won by " + laws[k], x.agreed(0, 1, 0, 0, 0), won[k]);
        }
        says("of alike ones the least of the first BOARD, then of the other one.");
        // a's second MOVE begins at 1 and so much, and costs 1 from 7 on; b's likewise, but both cost no more
        OneClock x = Tapes.reading(two + "clock 6;flag 1;worth a=0;worth b=0;");
        due("the other one alone", x.agreed(0, 1, 0, 0, 1), 6);
        due("the other one alone, turned round", x.agreed(1, 0, 0, 0, 1), 6);
        OneClock y = Tapes.reading(two + "clock 10;flag 1;worth a=0;worth b=0;");
        due("none lets the FLAG fall", y.agreed(0, 1, 0, 0, 1), 0);
        OneClock z = Tapes.reading(two + "clock 9;flag 1;worth a=0;worth b=0;");
        due("nine lets it fall", z.agreed(0, 1, 0, 0, 1), 9);
    }

    private static void agreedOfHeld() {
        says("ANSWERS are each later by so much (0 .. 9 minutes each, always)");
        OneClock x = Tapes.reading("board a 3 0;board b 1 0;step 0;thinks 0;clock 500;answer a=9999;worth a=0-time;worth b=0;");
        due("each time", x.agreed(0, 1, 0, 0, 0), -108 - 216);
        OneClock y = Tapes.reading("board a 3 0;board b 1 0;step 0;thinks 0;clock 500;answer a=0-9999;worth a=0-time;worth b=0;");
        due("each time from 0 on", y.agreed(0, 1, 0, 0, 0), -9 - 18);
        y.move(0, 0);
        due("what is ahead stays", y.agreed(0, 1, 0, 0, 0), -9);
    }

    // ---------------------------------------------------------------- SEATS

    private static void seatsOfOne() {
        says("SEATS: what is won; -1000000: no such ones, no BOARDS.");
        OneClock none = new OneClock();
        due("no BOARDS", none.seats(0, 0), BAD);
        due("no BOARDS at", none.seatAt(0, 0, 0), OneClock.NONE);
        OneClock one = Tapes.reading("board a 2 0;worth a=4;");
        due("one BOARD", one.seats(0, 0), 8);
        due("at its seat", one.seatAt(0, 0, 0), 0);
        due("no other seat", one.seatAt(0, 0, 1), OneClock.NONE);
        OneClock closed = Tapes.reading("board a 0 0;board b 0 0;");
        due("none is OPEN", closed.seats(0, 0), 0);
        due("the first by numbers", closed.seatAt(0, 0, 0) * 10 + closed.seatAt(0, 0, 1), 1);
    }

    private static void seatsOfSix() {
        says("SEATS: of all orders of BOARDS in their seats that by which most is won by a RULE");
        // by its WORTH he goes from f to d, c, b, a, e: best if each is beside the one ahead
        OneClock x = Tapes.reading(SIX + "step 9;thinks 0;clock 500;worth f=900-time;worth d=800-time;worth c=700-time;"
            + "worth b=600-time;worth a=500-time;worth e=400-time;");
        due("won", x.seats(3, 0), 3900 - 9 * (1 + 2 + 3 + 4 + 5));
        int[] order = {5, 3, 2, 1, 0, 4};
        for (int k = 0; k < 6; k++) {
            due("seat " + k, x.seatAt(3, 0, k), order[k]);
        }
        due("no 7th seat", x.seatAt(3, 0, 6), OneClock.NONE);
        says("He begins at the first seat.");
        OneClock y = Tapes.reading("board a 1 0;board b 1 0;board c 1 0;step 9;clock 9;thinks 0;worth c=50-time;worth a=0;worth b=20-time;");
        // c at 0, and b at 9: by any order that begins with c; b is there ahead of a by its WORTH
        due("begins at c", y.seats(3, 0), 50 + 11);
        due("the first seat", y.seatAt(3, 0, 0), 2);
    }

    private static void seatsOfAlike() {
        says("of alike ones the first by numbers.");
        OneClock x = Tapes.reading(SIX + "step 0;");
        due("all alike", x.seats(0, 0), 6);
        for (int k = 0; k < 6; k++) {
            due("seat " + k, x.seatAt(0, 0, k), k);
        }
        says("from minute 0 on, all as by the text; of alike ones the first by numbers.");
        x.move(3, 0);
        x.drop(2);
        x.pause(99);
        due("from minute 0 on", x.seats(0, 0), 6);
        x.pause(99);
        due("though all is OVER", x.seats(1, 0), 6);
    }

    private static void seatsAskedInTurn() {
        says("Promise 24: seatAt");
        String text = "board a 1 0;board b 2 0;board c 1 0;thinks 60 0 1;step 7;clock 90;flag 4;worth a=think-time;worth b=30-time;worth c=time*2-think;";
        OneClock x = Tapes.reading(text);
        for (int round = 0; round < 2; round++) {
            for (int i = 0; i < 3; i++) {
                for (int rule = 3; rule >= 0; rule--) {
                    int k = (rule + i) % 3;
                    due("seat by " + rule + " " + i, x.seatAt(rule, i, k), Tapes.reading(text).seatAt(rule, i, k));
                    due("seats by " + rule + " " + i, x.seats(rule, i), Tapes.reading(text).seats(rule, i));
                }
            }
        }
        // of 60 and of 0 minutes, by one RULE and by the next one
        for (int rule = 0; rule < 3; rule++) {
            x.seats(rule, 0);
            due("0 behind 60 by " + rule, x.seats(rule + 1, 1), Tapes.reading(text).seats(rule + 1, 1));
        }
    }

    /** Whatever was tried ahead, each answer is the same as that of a new object. */
    private static void tryingLeavesNothing() {
        says("from minute 0 on, all as by the text");
        String text = "board a 2 1;board b 3 2;board c 1 3;board d 2 0;thinks 2 5;step 3;clock 80;flag 9;worth a=time;worth b=20-time;"
            + "worth c=idle;answer a=6;answer b=9;draw c=4;draw d=sum;";
        for (int first = 0; first < 10; first++) {
            for (int then = 0; then < 10; then++) {
                OneClock x = Tapes.reading(text);
                x.tell(1, 9);
                x.move(2, 0);
                ask(x, first);
                OneClock fresh = Tapes.reading(text);
                fresh.tell(1, 9);
                fresh.move(2, 0);
                due(then + " behind " + first, ask(x, then), ask(fresh, then));
            }
        }
    }

    private static int ask(OneClock x, int which) {
        switch (which) {
            case 0: return x.seats(1, 1) * 10 + x.seatAt(1, 1, 1);
            case 1: return x.agreed(1, 3, 0, 0, 0) * 100 + x.agreed(1, 3, 0, 0, 1);
            case 2: return x.haste(1, 2, 0);
            case 3: return x.shared(0, 0, 0) * 100 + x.shared(0, 0, 1);
            case 4: return x.rule(0, 1, 0) * 1000 + x.rule(0, 1, 1);
            case 5: return x.dropBest(0, 1, 0) * 100 + x.dropBest(0, 1, 1);
            case 6: return x.fits(1) * 100 + x.spare(3, 0, 0);
            case 7: return x.offerBest(1, 0, 0) * 100 + x.offerBest(1, 0, 1);
            case 8: return x.bestRule(2) * 100 + x.bestRule(0) * 10 + x.bestRule(1);
            default: return x.best(2) * 100 + x.bestAt(2, 1);
        }
    }

    // ---------------------------------------------------------------- SHARED

    private static void sharedByNone() {
        says("(each has some or none: then he wins nothing)");
        OneClock none = new OneClock();
        due("no BOARDS", none.shared(3, 0, 0), 0);
        due("no BOARDS' bits", none.shared(3, 0, 1), 0);
        OneClock one = Tapes.reading("board a 2 0;worth a=0-4;");
        due("one BOARD", one.shared(0, 0, 0), -8);
        due("the first one has none", one.shared(0, 0, 1), 0);
        OneClock loss = Tapes.reading(SIX + "worth a=0-9;worth f=0-9;step 0;");
        due("all are played", loss.shared(0, 0, 0), 4 - 18);
        due("alike: the least bits", loss.shared(0, 0, 1), 0);
        OneClock flag = Tapes.reading("board a 1 0;board b 1 0;thinks 3;clock 2;flag 8;");
        due("one FLAG alone", flag.shared(0, 0, 0), -8);
        due("by one master", flag.shared(0, 0, 1), 0);
    }

    private static void sharedBySix() {
        says("SHARED: two masters, each from minute 0 on with a clock of his own");
        OneClock x = Tapes.reading(SIX + "step 0;clock 3;flag 9;");
        due("three MOVES each", x.shared(0, 0, 0), 6);
        says("of alike ones the least bits of the first one.");
        due("the least bits", x.shared(0, 0, 1), 7);
        OneClock y = Tapes.reading(SIX + "step 0;clock 5;flag 9;");
        due("one and five", y.shared(0, 0, 0), 6);
        due("the least bits of that", y.shared(0, 0, 1), 1);
        OneClock z = Tapes.reading(SIX + "step 0;clock 6;flag 9;");
        due("none and six", z.shared(0, 0, 1), 0);
        OneClock far = Tapes.reading(SIX + "step 0;clock 1;worth f=50;worth e=60;worth a=70;");
        due("the two dearest", far.shared(3, 0, 0), 130);
        due("each has one of them", far.shared(3, 0, 1), 1);
        OneClock apart = Tapes.reading(SIX + "step 9;clock 1;worth f=80;worth e=60;worth a=0-7;worth b=0-8;worth c=0-6;worth d=0-5;");
        // the first of his BOARDS is where he begins: f alone, and one of a .. e
        due("f alone", apart.shared(0, 0, 0), 80 - 7);
        due("the least bits of f alone", apart.shared(0, 0, 1), 31);
    }

    private static void sharedBegins() {
        says("at the seat of the first of his BOARDS, all as by the text");
        String text = "board a 0 0;board b 1 0;board c 1 0;step 9;clock 10;worth b=20-time;worth c=20-time*2;";
        OneClock x = Tapes.reading(text);
        // a has no MOVES, but he who has it begins there: so b with it at 9, and c at 0
        due("won", x.shared(0, 0, 0), 11 + 20);
        due("a and b", x.shared(0, 0, 1), 3);
        x.move(1, 0);
        x.pause(500);
        due("as by the text", x.shared(0, 0, 0), 31);
    }

    // ---------------------------------------------------------------- TOLD

    private static void tells() {
        says("It is TOLD: its number; NONE, and nothing happens: 4 are there, no such ones.");
        OneClock x = Tapes.reading("board a 1 0;board b 0 0;board c 1 0;clock 3;");
        for (int b : NO_BOARDS) {
            due("board " + b, x.tell(b, 1), OneClock.NONE);
        }
        for (int minute : new int[] {-1, -2, 501, 502, MOST, LEAST}) {
            due("minute " + minute, x.tell(0, minute), OneClock.NONE);
        }
        due("nothing happens", x.count(12), 0);
        int[] minutes = {0, 500, 1, 499};
        for (int k = 0; k < 4; k++) {
            due("TOLD " + k, x.tell(k % 3, minutes[k]), k);
            due("how many", x.count(12), k + 1);
        }
        due("a 5th", x.tell(0, 1), OneClock.NONE);
        due("nothing happens by it", x.count(12), 4);
        due("without BOARDS", new OneClock().tell(0, 0), OneClock.NONE);
        x.pause(3);
        due("OVER: TOLD all the same", x.forget() + x.tell(0, 1), 4);
    }

    private static void forgets() {
        says("All that was TOLD is forgotten: how many there were.");
        OneClock x = Tapes.reading("board a 2 0;");
        for (int n = 0; n <= 4; n++) {
            for (int k = 0; k < n; k++) {
                due("TOLD " + k + " of " + n, x.tell(0, 2 * k + 1), k);
            }
            due("forget " + n, x.forget(), n);
            due("none then", x.count(12), 0);
            due("fits of none", x.fits(1), OneClock.NONE);
            due("forget none", x.forget(), 0);
        }
    }

    private static void fitsKnown() {
        says("FITS, as KNOWN by k: how many rows; NONE: no such k.");
        OneClock none = new OneClock();
        due("none KNOWN without BOARDS", none.fits(0), 1);
        due("one KNOWN without BOARDS", none.fits(1), OneClock.NONE);
        OneClock x = Tapes.reading("board a 9 0;thinks 1 1 1 1;");
        int rows = 1;
        for (int told = 0; told <= 4; told++) {
            for (int k : new int[] {-1, LEAST, told + 1, 5, MOST}) {
                due("of " + told + " by " + k, x.fits(k), OneClock.NONE);
            }
            due("all that are TOLD", x.fits(told), rows);
            due("none of them", x.fits(0), 1);
            x.tell(0, 1 + 2 * told);
            rows *= 4;
        }
        due("the first three", x.fits(3), 64);
        OneClock late = Tapes.reading("board a 9 0;thinks 1;");
        late.tell(0, 5);
        late.tell(0, 5);
        due("the first alone", late.fits(1), 1);
        due("both at one minute", late.fits(2), 0);
    }

    /** How many rows fit when one thing is told, or one and then another one. */
    private static int fits(String text, int... told) {
        OneClock x = Tapes.reading(text);
        for (int k = 0; k < told.length; k += 2) {
            x.tell(told[k], told[k + 1]);
        }
        return x.fits(told.length / 2);
    }

    private static void fitsSoonest() {
        says("by which they, and no others, are done at these BOARDS at just these minutes (he may WAIT there ahead of thinking as long as he likes");
        String text = "board a 2 0;board b 2 0;step 3;thinks 2;clock 20;answer a=4;";
        for (int minute = 0; minute <= 21; minute++) {
            due("at a at " + minute, fits(text, 0, minute), minute >= 2 && minute <= 20 ? 1 : 0);
            due("at b at " + minute, fits(text, 1, minute), minute >= 5 && minute <= 20 ? 1 : 0);
            due("a 2, a " + minute, fits(text, 0, 2, 0, minute), minute >= 8 && minute <= 20 ? 1 : 0);
            due("a 2, b " + minute, fits(text, 0, 2, 1, minute), minute >= 7 && minute <= 20 ? 1 : 0);
            due("b 6, a " + minute, fits(text, 1, 6, 0, minute), minute >= 11 && minute <= 20 ? 1 : 0);
        }
        says("idle is longer then");
        // a MOVE of 2 minutes that is done at 3 was idle for one minute, one of 1 minute for two
        String idle = "board a 2 0;thinks 2 1;clock 20;answer a=idle*3;";
        for (int minute = 3; minute <= 12; minute++) {
            int rows = (minute >= 8 ? 1 : 0) + (minute >= 7 ? 1 : 0) + (minute >= 11 ? 1 : 0) + (minute >= 10 ? 1 : 0);
            due("a 3, a " + minute, fits(idle, 0, 3, 0, minute), rows);
        }
    }

    private static void fitsNearClock() {
        says("but not till CLOCK");
        String text = "board a 2 0;board b 1 0;step 5;clock 10;answer a=10;thinks ";
        due("0 minutes ahead of CLOCK", fits(text + "0;", 0, 9), 1);
        due("0 minutes at CLOCK", fits(text + "0;", 0, 10), 0);
        due("1 minute to CLOCK", fits(text + "1;", 0, 10), 1);
        due("10 minutes to CLOCK", fits(text + "10;", 0, 10), 1);
        due("0 and 1 minute to CLOCK", fits(text + "0 1;", 0, 10), 1);
        says("the FLAG does not fall");
        due("1 minute behind CLOCK", fits(text + "1;", 0, 11), 0);
        due("far behind CLOCK", fits(text + "1;", 0, 500), 0);
        due("60 minutes behind CLOCK", fits(text + "60;", 0, 60), 0);
        // he need not WAIT if walking, or the other one, takes till CLOCK
        due("walking till CLOCK", fits(text + "0;clock 5;", 1, 5), 1);
        due("walking till CLOCK less 1", fits(text + "0;clock 6;", 1, 6), 0);
        due("READY at CLOCK", fits(text + "0;", 0, 0, 0, 10), 1);
        due("READY ahead of CLOCK", fits(text + "0;clock 11;", 0, 0, 0, 11), 0);
    }

    private static void fitsBehindOver() {
        says("all is not OVER ahead of one");
        String text = "board a 1 0;board b 2 0;board c 0 0;step 0;clock 10;thinks 5 0;answer b=0;";
        due("at CLOCK already", fits(text, 0, 10, 1, 10), 0);
        due("ahead of CLOCK", fits(text, 0, 9, 1, 9), 2);
        due("not OPEN by the text", fits(text, 2, 7), 0);
        due("not OPEN any more", fits(text, 0, 5, 0, 9), 0);
        due("none OPEN any more", fits("board a 1 0;", 0, 5, 0, 9), 0);
        due("in their order", fits(text, 1, 9, 1, 8), 0);
        due("0 minutes one behind another", fits(text, 1, 0, 1, 0), 1);
    }

    private static void fitsAsByTheText() {
        says("FITS, from minute 0 on, all as by the text: rows of THINKS (one for each of these k MOVES)");
        OneClock x = Tapes.reading("board a 1 0;board b 1 0;thinks 2 1;clock 9;");
        x.tell(0, 2);
        x.move(0, 0);
        x.drop(1);
        due("done already", x.fits(1), 2);
        x.tell(1, 5);
        due("let go already", x.fits(2), 4);
        due("undo", x.undo(), true);
        due("TOLD stays", x.count(12), 2);
        // WORTH is won, so ANSWER may look at it
        String sums = "board a 2 0;thinks 1 2 3;clock 50;worth a=think*2;answer a=sum+think;";
        due("sum is known", fits(sums, 0, 3, 0, 7), 3 + 2 + 1);
    }
}
