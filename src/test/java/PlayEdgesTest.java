import java.util.ArrayList;
import java.util.List;

/** The edges that section II and promises 6 to 13 and 29 to 31 name: what is done, undone and held. */
public final class PlayEdgesTest extends Checks {
    private static final int[] NO_BOARDS = {-1, -2, 3, 4, 6, 7, MOST, LEAST};

    public static void main(String[] args) {
        openOrNot();
        shorterWay();
        stepOfNone();
        waitsTillReady();
        behindClockByMove();
        flagFalls();
        behindClockByOffer();
        drawOrNone();
        refusedOfferNearClock();
        letGo();
        waits();
        clockWithoutFlag();
        overByFlag();
        overByClock();
        overByBoards();
        overWithoutBoards();
        ifs();
        wraps();
        roundsTowardsZero();
        dividesByZero();
        held();
        factsAtTheirEdges();
        noSuchBoard();
        noSuchThink();
        noSuchMinutes();
        noSuchAheadOfOver();
        undoesFifty();
        undoesAllKinds();
        refusedIsNotDone();
        beginsBehindClock();
        slots();
        slotsHoldAll();
        restoreUndoesNothing();
        countsOfOthers();
        tellAll();
    }

    // ---------------------------------------------------------------- boards and ways

    private static void openOrNot() {
        says("A BOARD is OPEN if there are MOVES left of it and it was not ended.");
        OneClock x = Tapes.reading("board a 1 0;board b 2 0;board c 0 0;board d 9 5;board e 9 5;thinks 0;draw e=1;step 0;answer b=0;");
        int[] open = {1, 1, 0, 1, 1};
        for (int b = 0; b < 5; b++) {
            due("open at first " + b, x.board(b, 3), open[b]);
        }
        due("open boards", x.count(7), 4);
        x.move(0, 0);
        due("no MOVES left", x.board(0, 3), 0);
        x.move(1, 0);
        due("one MOVE left", x.board(1, 3), 1);
        x.move(1, 0);
        due("none left then", x.board(1, 3), 0);
        x.drop(3);
        due("ended by letting go", x.board(3, 3), 0);
        due("its MOVES are left", x.board(3, 0), 9);
        due("not over by one", x.count(8), 0);
        x.offer(4);
        due("ended by a draw", x.board(4, 3), 0);
        due("its MOVES are left, too", x.board(4, 0), 9);
        due("none is open", x.count(7), 0);
        due("over", x.count(8), 1);
        OneClock y = Tapes.reading("board a 2 0;thinks 9;clock 5;");
        y.move(0, 0);
        due("open though the FLAG fell", y.board(0, 3), 1);
    }

    private static void shorterWay() {
        says("he walks there (STEP for each seat, the shorter way round)");
        StringBuilder text = new StringBuilder("step 7;thinks 0;clock 500;");
        for (int boards = 1; boards <= 6; boards++) {
            text.append("board ").append((char) ('a' + boards - 1)).append(" 9 0;");
            for (int from = 0; from < boards; from++) {
                for (int to = 0; to < boards; to++) {
                    OneClock x = Tapes.reading(text.toString());
                    x.move(from, 0);
                    int minute = x.count(1);
                    int forth = (to - from + boards) % boards;
                    int steps = Math.min(forth, (from - to + boards) % boards);
                    String way = "of " + boards + " from " + from + " to " + to;
                    due("steps " + way, x.board(to, 4), steps);
                    int begins = Math.max(minute + 7 * steps, from == to ? minute + 1 : 0);
                    due("begins " + way, x.begins(to), begins);
                    due("move " + way, x.move(to, 0), 0);
                    due("minute " + way, x.count(1), begins);
                    due("stands " + way, x.count(2), to);
                }
            }
        }
    }

    private static void stepOfNone() {
        says("STEP: minutes from a seat to the next one, 0 .. 9 (1).");
        for (int step = 0; step <= 9; step += 3) {
            OneClock x = Tapes.reading("board a 1 0;board b 1 0;board c 1 0;board d 1 0;step " + step + ";");
            due("begins by " + step, x.begins(2), 2 * step);
            due("begins round by " + step, x.begins(3), step);
        }
        due("not told", Tapes.reading("board a 1 0;board b 1 0;").begins(1), 1);
    }

    private static void waitsTillReady() {
        says("waits till it is READY, thinks so long");
        // he is at a again at minute 3 + 1 + 4 + 4 = 12
        for (int answer = 8; answer <= 13; answer++) {
            OneClock x = Tapes.reading("board a 2 0;board b 1 0;step 4;thinks 3 1;worth b=0;worth a=idle;answer a=" + answer + ";");
            x.move(0, 0);
            x.move(1, 1);
            due("ready by " + answer, x.board(0, 1), 3 + answer);
            due("begins by " + answer, x.begins(0), Math.max(12, 3 + answer));
            x.move(0, 1);
            due("idle by " + answer, x.sum(), Math.max(0, 12 - 3 - answer));
            due("minute by " + answer, x.count(1), Math.max(12, 3 + answer) + 1);
            due("ready then", x.board(0, 1), x.count(1) + answer);
        }
        says("it is READY again ANSWER minutes later");
        OneClock x = Tapes.reading("board a 2 0;thinks 3;answer a=0;");
        x.move(0, 0);
        due("at once", x.board(0, 1), 3);
        due("begins at once", x.begins(0), 3);
    }

    // ---------------------------------------------------------------- the flag

    private static void behindClockByMove() {
        says("If he would be behind CLOCK with that, the FLAG falls");
        int[] clocks = {1, 2, 60, 499, 500};
        for (int clock : clocks) {
            String text = "board a 2 0;flag 3;thinks 0 1 2 60;clock " + clock + ";";
            for (int i = 0; i < 4; i++) {
                int think = new int[] {0, 1, 2, 60}[i];
                for (int ahead = Math.max(1, clock - 61); ahead < clock; ahead++) {
                    OneClock x = Tapes.reading(text);
                    x.pause(ahead);
                    boolean falls = ahead + think > clock;
                    due(think + " from " + ahead + " by " + clock, x.move(0, i), falls ? 1 : 0);
                    due("minute", x.count(1), falls ? clock : ahead + think);
                    due("won", x.sum(), falls ? -3 : 1);
                }
            }
        }
        // by walking alone: 9 minutes; by waiting alone: till minute 20
        for (int clock = 7; clock <= 22; clock++) {
            OneClock x = Tapes.reading("board a 2 0;board b 1 0;step 9;thinks 0;answer a=20;clock " + clock + ";");
            due("walks by " + clock, x.move(1, 0), clock < 9 ? 1 : 0);
            OneClock y = Tapes.reading("board a 2 0;thinks 0;answer a=20;clock " + clock + ";");
            y.move(0, 0);
            due("waits by " + clock, y.move(0, 0), clock < 20 ? 1 : 0);
            due("is there by " + clock, y.count(1), Math.min(clock, 20));
        }
    }

    private static void flagFalls() {
        says("it is minute CLOCK, he stands there, nothing is won by it; FLAG is lost; all is over.");
        OneClock x = Tapes.reading("board a 2 0;board b 3 4;board c 1 0;step 2;thinks 8 1;clock 11;flag 999;worth b=50;worth a=7;answer b=2;");
        x.move(0, 1);
        x.move(1, 1);
        due("sum ahead", x.sum(), 57);
        x.move(0, 1);
        due("sum ahead of it", x.sum(), 64);
        due("the FLAG falls", x.move(1, 0), 1);
        due("minute CLOCK", x.count(1), 11);
        due("he stands there", x.count(2), 1);
        due("steps from there", x.board(0, 4) * 10 + x.board(1, 4), 10);
        due("FLAG is lost", x.sum(), 64 - 999);
        due("it fell", x.count(9), 1);
        due("all is over", x.count(8), 1);
        due("MOVES left as they were", x.board(1, 0), 2);
        due("MOVES made as they were", x.board(1, 2), 1);
        due("READY as it was", x.board(1, 1), 6);
        due("not ended", x.board(1, 5), 0);
        OneClock none = Tapes.reading("board a 1 0;thinks 2;clock 1;");
        due("a FLAG of 0 falls, too", none.move(0, 0), 1);
        due("nothing is lost by it", none.sum(), 0);
        due("it fell all the same", none.count(9), 1);
    }

    // ---------------------------------------------------------------- offers

    private static void behindClockByOffer() {
        says("then (if he isn't behind CLOCK: likewise) DRAW is asked");
        for (int clock = 7; clock <= 22; clock++) {
            OneClock x = Tapes.reading("board a 2 0;board b 2 0;step 9;draw b=time+1;flag 30;clock " + clock + ";");
            due("walks by " + clock, x.offer(1), clock < 9 ? 2 : 1);
            due("sum by " + clock, x.sum(), clock < 9 ? -30 : 10);
            due("minute by " + clock, x.count(1), Math.min(clock, 9));
            due("stands by " + clock, x.count(2), 1);
            due("FLAG by " + clock, x.count(9), clock < 9 ? 1 : 0);
            due("ended by " + clock, x.board(1, 5), clock < 9 ? 0 : 1);
            OneClock y = Tapes.reading("board a 2 0;thinks 0;answer a=20;draw a=5;worth a=0;flag 30;clock " + clock + ";");
            y.move(0, 0);
            due("waits by " + clock, y.offer(0), clock < 20 ? 2 : 1);
            due("sum by " + clock, y.sum(), clock < 20 ? -30 : 5);
            due("is there by " + clock, y.count(1), Math.min(clock, 20));
        }
    }

    private static void drawOrNone() {
        says("above 0: so much is won, and it is ended; else it is 1 minute later (CLOCK at most)");
        int[] draws = {-1000, -999, -1, 0, 1, 2, 998, 999, 1000};
        for (int draw : draws) {
            OneClock x = Tapes.reading("board a 2 0;board b 2 0;step 3;draw b=0-" + Math.max(0, -draw) + "+" + Math.max(0, draw) + ";");
            due("offer by " + draw, x.offer(1), draw > 0 ? 1 : 0);
            due("sum by " + draw, x.sum(), draw > 0 ? Math.min(draw, 999) : 0);
            due("ended by " + draw, x.board(1, 5), draw > 0 ? 1 : 0);
            due("minute by " + draw, x.count(1), draw > 0 ? 3 : 4);
            due("stands by " + draw, x.count(2), 1);
            due("left by " + draw, x.board(1, 0), 2);
            due("ready by " + draw, x.board(1, 1), 0);
        }
        due("no DRAW told", Tapes.reading("board a 1 0;").offer(0), 0);
    }

    private static void refusedOfferNearClock() {
        says("else it is 1 minute later (CLOCK at most)");
        for (int ahead = 17; ahead <= 20; ahead++) {
            OneClock x = Tapes.reading("board a 2 0;board b 2 0;step 1;clock 20;flag 8;");
            x.pause(ahead - 1);
            due("asked at " + ahead, x.offer(1), 0);
            due("minute behind " + ahead, x.count(1), Math.min(20, ahead + 1));
            due("over behind " + ahead, x.count(8), ahead >= 19 ? 1 : 0);
            due("no FLAG behind " + ahead, x.count(9) + x.sum(), 0);
        }
    }

    // ---------------------------------------------------------------- letting go, waiting

    private static void letGo() {
        says("LET GO: LOST is lost, it is ended (he need not go there).");
        OneClock x = Tapes.reading("board a 2 0;board b 2 999;board c 2 1;step 9;clock 3;flag 5;");
        due("far from him", x.drop(1), true);
        due("lost", x.sum(), -999);
        due("no minute, no way", x.count(1) + x.count(2), 0);
        due("let go", x.board(1, 5), 2);
        due("once only", x.drop(1), false);
        due("where he is", x.drop(0), true);
        due("nothing is lost by it", x.sum(), -999);
        due("the last one", x.drop(2), true);
        due("lost in all", x.sum(), -1000);
        due("over", x.count(8), 1);
        due("no FLAG", x.count(9), 0);
        due("no more", x.drop(2), false);
    }

    private static void waits() {
        says("WAIT n minutes (1 .. 500; to CLOCK at most): the minute; NONE, and nothing happens: all is OVER, no such n.");
        for (int n : new int[] {1, 2, 119, 120, 121, 499, 500}) {
            OneClock x = Tapes.reading("board a 2 0;flag 9;");
            due("pause " + n, x.pause(n), Math.min(n, 120));
            due("minute by " + n, x.count(1), Math.min(n, 120));
            due("over by " + n, x.count(8), n >= 120 ? 1 : 0);
            due("no FLAG by " + n, x.count(9) + x.sum(), 0);
            due("pause behind " + n, x.pause(1), n >= 120 ? OneClock.NONE : n + 1);
        }
        OneClock x = Tapes.reading("board a 2 0;clock 500;");
        due("499", x.pause(499), 499);
        due("one more", x.pause(500), 500);
        due("none more", x.pause(1), OneClock.NONE);
        OneClock least = Tapes.reading("board a 2 0;clock 1;");
        due("at once", least.pause(1), 1);
        due("over at once", least.count(8), 1);
    }

    // ---------------------------------------------------------------- over

    private static void clockWithoutFlag() {
        says("At minute CLOCK all is over, too (no FLAG then, if it is not by a MOVE or an OFFER).");
        OneClock x = Tapes.reading("board a 2 0;board b 2 0;thinks 9 10 11;clock 10;flag 5;draw b=time;step 9;");
        due("a MOVE just to CLOCK", x.move(0, 1), 0);
        due("no FLAG by it", x.count(9) * 100 + x.count(8) * 10 + x.sum(), 11);
        x.undo();
        x.pause(1);
        due("an OFFER just at CLOCK", x.offer(1), 1);
        due("no FLAG by that", x.count(9) * 100 + x.count(8) * 10 + x.sum(), 20);
        x.undo();
        due("WAIT to CLOCK", x.pause(9), 10);
        due("no FLAG by WAIT", x.count(9) * 100 + x.count(8) * 10 + x.sum(), 10);
        x.undo();
        due("a MOVE behind CLOCK", x.move(0, 1), 1);
        due("FLAG by it", x.count(9) * 100 + x.count(8) * 10 + x.sum(), 105);
    }

    /** What is asked of an object with two boards when all is OVER: nothing more is done. */
    private static void over(String by, OneClock x) {
        String ahead = standing(x);
        due("over " + by, x.count(8), 1);
        for (int b = 0; b < 2; b++) {
            due("move " + by, x.move(b, 0), 2);
            due("offer " + by, x.offer(b), 3);
            due("drop " + by, x.drop(b), false);
            due("spare " + by, x.spare(b, 0, 0), -2);
        }
        due("pause " + by, x.pause(1), OneClock.NONE);
        due("best " + by, x.best(4), x.sum());
        due("bestAt " + by, x.bestAt(4, 0), -2);
        due("rule " + by, x.rule(3, 0, 0), x.sum());
        due("rule's minute " + by, x.rule(3, 0, 1), x.count(1));
        due("bestRule " + by, x.bestRule(2), x.sum());
        due("dropBest " + by, x.dropBest(0, 0, 1), 0);
        due("dropBest won " + by, x.dropBest(0, 0, 0), x.sum());
        due("offerBest " + by, x.offerBest(0, 0, 1), -2);
        due("offerBest won " + by, x.offerBest(0, 0, 0), x.sum());
        due("haste " + by, x.haste(0, 0, 0), 0);
        due("agreed " + by, x.agreed(0, 1, 0, 0, 1), 0);
        due("agreed won " + by, x.agreed(0, 1, 0, 0, 0), x.sum());
        stands("nothing happens " + by, x, ahead);
    }

    private static final String TWO = "board a 2 0;board b 1 0;step 1;thinks 5;clock 10;flag 7;draw a=9;draw b=9;";

    private static void overByFlag() {
        says("OVER: the FLAG fell, it is minute CLOCK, or no BOARD is OPEN.");
        OneClock x = Tapes.reading(TWO);
        x.pause(6);
        due("FLAG by a MOVE", x.move(1, 0), 1);
        over("by the FLAG", x);
        due("undo", x.undo(), true);
        due("not over then", x.count(8) + x.count(9), 0);
        x.pause(3);
        x.undo();
        x.pause(4);
        x.undo();
        OneClock y = Tapes.reading(TWO + "step 9;clock 8;");
        due("FLAG by an OFFER", y.offer(1), 2);
        over("by an OFFER", y);
    }

    private static void overByClock() {
        says("OVER: the FLAG fell, it is minute CLOCK, or no BOARD is OPEN.");
        OneClock x = Tapes.reading(TWO);
        x.pause(9);
        due("not over at 9", x.count(8), 0);
        due("WAIT", x.pause(1), 10);
        over("by WAIT", x);
        due("undo", x.undo(), true);
        due("a MOVE is possible then", x.move(0, 0), 1);
        OneClock y = Tapes.reading(TWO);
        y.pause(5);
        due("to CLOCK", y.move(0, 0), 0);
        over("by a MOVE", y);
        OneClock z = Tapes.reading(TWO + "draw b=0;");
        z.pause(8);
        due("no draw", z.offer(1), 0);
        over("by an OFFER", z);
    }

    private static void overByBoards() {
        says("OVER: the FLAG fell, it is minute CLOCK, or no BOARD is OPEN.");
        OneClock x = Tapes.reading(TWO + "clock 99;");
        x.offer(0);
        due("not over by one", x.count(8), 0);
        x.drop(1);
        over("by a draw and letting go", x);
        x.undo();
        due("not over then", x.count(8), 0);
        x.move(1, 0);
        over("by a MOVE", x);
        OneClock none = Tapes.reading("board a 0 0;board b 0 0;");
        over("by the text", none);
    }

    private static void overWithoutBoards() {
        says("OVER: the FLAG fell, it is minute CLOCK, or no BOARD is OPEN.");
        OneClock x = new OneClock();
        String ahead = standing(x);
        due("over", x.count(8), 1);
        due("move", x.move(0, 0), OneClock.NONE);
        due("offer", x.offer(0), OneClock.NONE);
        due("drop", x.drop(0), false);
        due("pause", x.pause(1), OneClock.NONE);
        due("undo", x.undo(), false);
        due("begins", x.begins(0), OneClock.NONE);
        stands("nothing happens", x, ahead);
    }

    // ---------------------------------------------------------------- laws

    private static void ifs() {
        says("the E of the first if that holds (one less than the other), else the last one");
        due("less", worth("if 2<3 then 7 else 8"), 7);
        due("alike", worth("if 3<3 then 7 else 8"), 8);
        due("more", worth("if 4<3 then 7 else 8"), 8);
        due("less, below 0", worth("if 0-3<0-2 then 7 else 8"), 7);
        due("more, below 0", worth("if 0-2<0-3 then 7 else 8"), 8);
        for (int first = 0; first <= 4; first++) {
            StringBuilder law = new StringBuilder();
            for (int k = 0; k < 4; k++) {
                law.append("if ").append(first).append('<').append(k + 1).append(" then ").append(10 + k).append(" else ");
            }
            due("the first that holds is " + first, worth(law + "20"), first < 4 ? 10 + first : 20);
        }
        String failing = "if 2<1 then 1 else if 3<1 then 1 else if 4<1 then 1 else if 5<1 then 1 else ";
        due("as deep as can be behind four", worth(failing + "1+2*(1+2*(1+2*(1+2*(1+2*(1+2*(1+2*1))))))"), 255);
        due("most and least", worth("if 2147*1000*1000+483*1000+647<2147*1000*1000+483*1000+648 then 7 else 8"), 8);
    }

    private static void wraps() {
        says("ints of 32 bits that wrap");
        String most = "(2147*1000*1000+483*1000+647)";
        due("+ at the edge", worth("(" + most + "+0)/9999/999"), 214);
        due("+ wraps", worth("(" + most + "+1)/9999/999"), -214);
        due("- at the edge", worth("(0-" + most + "-1)/9999/999"), -214);
        due("- wraps", worth("(0-" + most + "-2)/9999/999"), 214);
        due("- of the least", worth("(0-(" + most + "+1))/9999/999"), -214);
        due("* wraps", worth(most + "*2+5"), 3);
        due("* of squares", worth("(256*256)*(256*256)+6"), 6);
        due("* by less", worth("(0-" + most + "-1)*(0-1)/9999/999"), -214);
        due("the least by -1", worth("(" + most + "+1)/(0-1)/9999/999"), -214);
        due("compared as it wraps", worth("if " + most + "+1<0 then 7 else 8"), 7);
    }

    private static void roundsTowardsZero() {
        says("/ rounded towards 0");
        int[][] cases = {{7, 2, 3}, {-7, 2, -3}, {7, -2, -3}, {-7, -2, 3}, {1, 2, 0}, {-1, 2, 0}, {6, 3, 2}, {-6, 3, -2}, {0, 5, 0},
            {5, 5, 1}, {4, 5, 0}, {-4, 5, 0}};
        for (int[] c : cases) {
            String law = "(0-" + Math.max(0, -c[0]) + "+" + Math.max(0, c[0]) + ")/(0-" + Math.max(0, -c[1]) + "+" + Math.max(0, c[1]) + ")";
            due(c[0] + " by " + c[1], worth(law), c[2]);
        }
    }

    private static void dividesByZero() {
        says("a LAW in which something that is looked at is divided by 0 is 0");
        String[] zero = {"1/0", "0/0", "5+1/0", "1/0+5", "1/0*0+5", "5-1/(think-3)", "1/(1/2)", "if 1/0<1 then 7 else 8",
            "if 1<1/0 then 7 else 8", "if 1<2 then 7/0 else 8", "if 2<1 then 7 else 8/0", "if 2<1 then 7 else if 1/move<1 then 8 else 9",
            "if 2<1 then 7 else if 1<2 then 5+8/idle else 9", "(((((6/0)))))+1"};
        for (String law : zero) {
            due(law, worth(law), 0);
        }
        due("then is not looked at", worth("if 2<1 then 7/0 else 8"), 8);
        due("else is not looked at", worth("if 1<2 then 7 else 8/0"), 7);
        due("a later if is not looked at", worth("if 1<2 then 7 else if 1/0<1 then 8/0 else 9"), 7);
        OneClock x = Tapes.reading("board a 3 0;thinks 2;answer a=9+1/move;draw a=7+1/think;");
        x.move(0, 0);
        due("ANSWER 0", x.board(0, 1), 2);
        due("DRAW 0", x.offer(0), 0);
        due("DRAW 0: a minute later", x.count(1), 3);
        x.move(0, 0);
        due("ANSWER 10", x.board(0, 1), 15);
    }

    private static void held() {
        says("WORTH, DRAW held to -999 .. 999, ANSWER to 0 .. 99");
        for (int worth : new int[] {-9999, -1000, -999, -998, 998, 999, 1000, 9999}) {
            String law = worth < 0 ? "0-" + -worth : "" + worth;
            due("worth " + worth, worth(law), Math.max(-999, Math.min(999, worth)));
        }
        for (int answer : new int[] {-9999, -1, 0, 1, 98, 99, 100, 9999}) {
            String law = answer < 0 ? "0-" + -answer : "" + answer;
            OneClock x = Tapes.reading("board a 2 0;thinks 4;answer a=" + law + ";");
            x.move(0, 0);
            due("answer " + answer, x.board(0, 1), 4 + Math.max(0, Math.min(99, answer)));
        }
        for (int draw : new int[] {998, 999, 1000, 9999}) {
            OneClock x = Tapes.reading("board a 2 0;draw a=" + draw + ";");
            x.offer(0);
            due("draw " + draw, x.sum(), Math.min(999, draw));
        }
    }

    private static void factsAtTheirEdges() {
        says("move: how many MOVES were made there (not this one)");
        OneClock x = Tapes.reading("board a 9 0;thinks 0;answer a=0;worth a=move*10+left;");
        int won = 0;
        for (int n = 0; n < 9; n++) {
            due("move " + n, x.move(0, 0), 0);
            won += n * 10 + 9 - n;
            due("sum behind " + n, x.sum(), won);
        }
        says("idle: how long it had been READY by then");
        x = Tapes.reading("board a 3 0;thinks 0;answer a=5;worth a=idle+1;clock 500;");
        x.pause(7);
        x.move(0, 0);
        due("since minute 0", x.sum(), 8);
        x.move(0, 0);
        due("not at all", x.sum(), 9);
        x.pause(6);
        x.move(0, 0);
        due("one minute", x.sum(), 11);
        says("sum: what is won in all (without this one)");
        x = Tapes.reading("board a 3 0;board b 1 70;worth a=sum-1;draw b=sum+80;answer a=0-sum;thinks 0;step 0;");
        x.move(0, 0);
        due("of nothing", x.sum(), -1);
        due("ANSWER of nothing", x.board(0, 1), 0);
        x.move(0, 0);
        due("below 0", x.sum(), -3);
        due("ANSWER below 0", x.board(0, 1), 1);
        x.drop(1);
        x.move(0, 0);
        due("what is lost counts", x.sum(), -73 - 74);
        says("think: how long he thought (DRAW: 0)");
        x = Tapes.reading("board a 3 0;thinks 60 0;worth a=think+1;draw a=3-think;clock 500;");
        x.move(0, 1);
        due("0 minutes", x.sum(), 1);
        x.move(0, 0);
        due("60 minutes", x.sum(), 62);
        due("DRAW", x.offer(0), 1);
        due("by 0 minutes", x.sum(), 65);
    }

    // ---------------------------------------------------------------- no such ones

    private static OneClock three() {
        OneClock x = Tapes.reading("board a 2 3;board b 2 3;board c 0 3;thinks 1 2;draw b=5;");
        x.pause(1);
        return x;
    }

    private static void noSuchBoard() {
        says("NONE, and nothing happens: no such ones.");
        OneClock x = three();
        String ahead = standing(x);
        for (int b : NO_BOARDS) {
            due("move " + b, x.move(b, 0), OneClock.NONE);
            due("offer " + b, x.offer(b), OneClock.NONE);
            due("drop " + b, x.drop(b), false);
            due("begins " + b, x.begins(b), OneClock.NONE);
            for (int what = 0; what <= 5; what++) {
                due("board " + b, x.board(b, what), OneClock.NONE);
            }
        }
        for (int what : new int[] {-1, 6, 7, MOST, LEAST}) {
            for (int b = 0; b < 3; b++) {
                due("board's " + what, x.board(b, what), OneClock.NONE);
            }
        }
        stands("nothing happens", x, ahead);
        OneClock none = new OneClock();
        due("board of none", none.board(0, 0), OneClock.NONE);
        OneClock six = Tapes.reading("board a 1 0;board b 1 0;board c 1 0;board d 1 0;board e 1 0;board f 7 8;worth f=4;answer f=6;draw f=9;");
        due("the 6th of six", six.board(5, 0), 7);
        due("a 7th of six", six.board(6, 0), OneClock.NONE);
        due("move at the 6th", six.move(5, 0), 0);
        due("worth of it", six.sum(), 4);
        due("answer of it", six.board(5, 1), 8);
        due("draw of it", six.offer(5), 1);
        due("won by it", six.sum(), 13);
        six.undo();
        due("let go of it", six.drop(5), true);
        due("lost by it", six.sum(), -4);
    }

    private static void noSuchThink() {
        says("A MOVE at a BOARD by the i-th of THINKS");
        String text = "board a 2 0;worth a=think;thinks";
        for (int n = 1; n <= 4; n++) {
            text += " " + n * 11;
            for (int i : new int[] {-1, 0, 1, 2, 3, 4, 5, MOST, LEAST}) {
                OneClock x = Tapes.reading(text + ";");
                String ahead = standing(x);
                boolean known = i >= 0 && i < n;
                due("of " + n + " by " + i, x.move(0, i), known ? 0 : OneClock.NONE);
                if (known) {
                    due("thought", x.sum(), 11 * (i + 1));
                } else {
                    stands("nothing happens", x, ahead);
                }
            }
        }
    }

    private static void noSuchMinutes() {
        says("NONE, and nothing happens: all is OVER, no such n.");
        OneClock x = three();
        String ahead = standing(x);
        for (int n : new int[] {0, -1, -500, 501, 502, MOST, LEAST}) {
            due("pause " + n, x.pause(n), OneClock.NONE);
        }
        stands("nothing happens", x, ahead);
    }

    private static void noSuchAheadOfOver() {
        says("2, and nothing happens: it is not OPEN, all is OVER; NONE, and nothing happens: no such ones.");
        OneClock x = three();
        due("not OPEN", x.move(2, 0), 2);
        due("not OPEN, no such think", x.move(2, 2), OneClock.NONE);
        due("not OPEN: offer", x.offer(2), 3);
        due("not OPEN: drop", x.drop(2), false);
        due("not OPEN: begins", x.begins(2), -2);
        x.pause(500);
        due("OVER", x.move(0, 0), 2);
        due("OVER, no such board", x.move(3, 0), OneClock.NONE);
        due("OVER, no such think", x.move(0, 2), OneClock.NONE);
        due("OVER: offer, no such board", x.offer(3), OneClock.NONE);
        due("OVER: begins", x.begins(0), 120);
    }

    // ---------------------------------------------------------------- undone

    private static void undoesFifty() {
        says("The last thing done (move, offer, drop, pause) is undone: true; false: there is none (the last 50 can be).");
        OneClock x = Tapes.reading("board a 1 0;clock 500;");
        for (int done = 0; done <= 120; done++) {
            due("can be undone of " + done, x.count(11), Math.min(done, 50));
            x.pause(1);
        }
        for (int undone = 1; undone <= 50; undone++) {
            due("undo " + undone, x.undo(), true);
            due("minute behind it", x.count(1), 121 - undone);
            due("can be undone then", x.count(11), 50 - undone);
        }
        due("undo 51", x.undo(), false);
        due("nothing happens", x.count(1), 71);
        due("none can be", x.count(11), 0);
        x.pause(2);
        due("one can be", x.count(11), 1);
        due("undo it", x.undo(), true);
        due("minute then", x.count(1), 71);
        due("undo no more", x.undo(), false);
    }

    private static void undoesAllKinds() {
        says("The last thing done (move, offer, drop, pause) is undone: true");
        OneClock x = Tapes.reading("board a 9 4;board b 9 5;board c 9 6;board d 9 7;board e 9 8;board f 9 9;thinks 0 1;clock 400;step 2;"
            + "flag 70;worth a=time;worth b=0-idle;answer c=move*9;draw d=idle-40;draw e=5;worth f=sum;");
        List<String> ahead = new ArrayList<>();
        for (int n = 0; n < 60 && x.count(8) == 0; n++) {
            String standing = standing(x);
            boolean done = n % 7 == 3 ? x.offer(n % 6) < 3 : n % 29 == 20 ? x.drop(n % 6)
                : n % 5 == 4 ? x.pause(1 + n % 3) >= 0 : x.move(n * 5 % 6, n % 2) < 2;
            if (done) {
                ahead.add(standing);
            }
        }
        due("not over yet", x.count(8), 0);
        for (int n = 0, minute = x.count(1); n < 60 && minute < 399; n++, minute = x.count(1)) {
            ahead.add(standing(x));
            due("pause", x.pause(Math.min(9, 399 - minute)), Math.min(minute + 9, 399));
        }
        // the FLAG falls at last
        ahead.add(standing(x));
        due("the FLAG", x.move(x.count(2) == 0 ? 1 : 0, 1), 1);
        due("many were done", ahead.size() > 60, true);
        for (int undone = 1; undone <= 50; undone++) {
            due("undo " + undone, x.undo(), true);
            String was = ahead.get(ahead.size() - undone);
            due("sum behind undo " + undone, was.endsWith(" " + x.sum()), true);
            due("as it stood, undo " + undone, withoutUndone(standing(x)).equals(withoutUndone(was)), true);
        }
        due("no more", x.undo(), false);
    }

    /** How it stands but for the number of things that can be undone. */
    private static String withoutUndone(String standing) {
        String[] parts = standing.split(" ");
        parts[11] = "";
        return String.join(" ", parts);
    }

    private static void refusedIsNotDone() {
        says("The last thing done (move, offer, drop, pause) is undone");
        OneClock x = Tapes.reading("board a 2 0;board b 0 0;board c 1 0;");
        due("pause", x.pause(4), 4);
        x.move(1, 0);
        x.move(3, 0);
        x.offer(1);
        x.offer(9);
        x.drop(1);
        x.pause(0);
        x.tell(0, 3);
        x.hold(0);
        x.forget();
        x.best(2);
        x.feed(0, 0, 0, 0, 0);
        x.back(20);
        due("one thing was done", x.count(11), 1);
        due("undo", x.undo(), true);
        due("the pause", x.count(1), 0);
        due("SLOTS stay", x.count(13), 1);
        due("undo once more", x.undo(), false);
    }

    private static void beginsBehindClock() {
        says("When he could begin to think at an OPEN BOARD (it may be behind CLOCK); -2: it is not OPEN; NONE: no such one.");
        OneClock x = Tapes.reading("board a 2 0;board b 1 0;board c 0 0;step 9;clock 10;answer a=99;flag 3;thinks 1;");
        due("at CLOCK less 1", x.begins(1), 9);
        x.pause(1);
        due("at CLOCK", x.begins(1), 10);
        x.pause(1);
        due("behind CLOCK", x.begins(1), 11);
        x.move(0, 0);
        due("ready behind CLOCK", x.begins(0), 102);
        due("not OPEN", x.begins(2), -2);
        due("the FLAG falls", x.move(1, 0), 1);
        due("OVER: begins where he stands", x.begins(1), 10);
        due("OVER: begins elsewhere", x.begins(0), 102);
        x.undo();
        x.drop(1);
        due("ended", x.begins(1), -2);
        due("no such one", x.begins(3), OneClock.NONE);
    }

    // ---------------------------------------------------------------- held

    private static void slots() {
        says("are held in a SLOT (0 .. 2): true; false: no such one.");
        OneClock x = three();
        for (int slot : new int[] {-1, 3, 4, MOST, LEAST}) {
            due("hold " + slot, x.hold(slot), false);
            due("restore " + slot, x.restore(slot), false);
            due("nothing is held", x.count(13), 0);
        }
        due("nothing happens", x.count(1) * 10 + x.count(11), 11);
        for (int slot = 0; slot <= 2; slot++) {
            due("restore of nothing " + slot, x.restore(slot), false);
            due("what is done stays", x.count(11), 1 + slot);
            due("hold " + slot, x.hold(slot), true);
            due("held", x.count(13), slot + 1);
            due("hold once more " + slot, x.hold(slot), true);
            due("held still", x.count(13), slot + 1);
            x.pause(1);
        }
        for (int slot = 2; slot >= 0; slot--) {
            due("restore " + slot, x.restore(slot), true);
            due("minute of " + slot, x.count(1), 1 + slot);
            due("held then", x.count(13), 3);
        }
        OneClock last = three();
        last.hold(2);
        due("the last one alone", last.count(13), 1);
        due("not the first one", last.restore(0), false);
        due("not the second one", last.restore(1), false);
    }

    private static void slotsHoldAll() {
        says("BOARDS, the minute, where he is, what is won are held in a SLOT");
        OneClock x = Tapes.reading("board a 9 4;board b 9 5;board c 9 6;board d 9 7;board e 9 8;board f 9 9;thinks 0 1 50;clock 99;step 2;"
            + "flag 70;worth a=time;answer c=move*9;draw d=5;");
        x.move(5, 1);
        x.offer(3);
        x.drop(1);
        x.move(2, 1);
        x.hold(1);
        String held = standing(x);
        x.move(5, 0);
        x.move(0, 2);
        x.offer(4);
        x.drop(5);
        x.move(2, 2);
        due("the FLAG fell", x.count(9), 1);
        x.hold(0);
        String fallen = standing(x);
        for (int n = 0; n < 3; n++) {
            due("restore 1", x.restore(1), true);
            due("as it was held", sameBut(standing(x), held), true);
            x.move(4, 1);
            x.pause(9);
            due("restore 0", x.restore(0), true);
            due("as it had fallen", sameBut(standing(x), fallen), true);
        }
        due("nothing to be done then", x.pause(1), OneClock.NONE);
    }

    /** Whether two stand alike but for what can be undone and the SLOTS that hold something. */
    private static boolean sameBut(String one, String other) {
        String[] ones = one.split(" ");
        String[] others = other.split(" ");
        ones[13] = others[13];
        return withoutUndone(String.join(" ", ones)).equals(withoutUndone(other));
    }

    private static void restoreUndoesNothing() {
        says("They go on from what a SLOT holds (that stays there; nothing can be undone then): true; false, and nothing happens: no such one, nothing is held.");
        OneClock x = three();
        x.tell(0, 7);
        x.hold(0);
        due("can be undone", x.count(11), 1);
        due("restore", x.restore(0), true);
        due("none can be undone", x.count(11), 0);
        due("undo", x.undo(), false);
        due("minute", x.count(1), 1);
        due("TOLD stays", x.count(12), 1);
        x.move(0, 0);
        due("refused", x.restore(1), false);
        due("can be undone still", x.count(11), 1);
        due("undo then", x.undo(), true);
        due("as it was restored", x.count(1), 1);
        x.move(1, 1);
        due("that stays there", x.restore(0), true);
        due("minute again", x.count(1), 1);
    }

    private static void countsOfOthers() {
        says("NONE for others.");
        for (OneClock x : List.of(new OneClock(), three())) {
            for (int what : new int[] {-1, -2, 14, 15, 100, MOST, LEAST}) {
                due("count " + what, x.count(what), OneClock.NONE);
            }
        }
        says("2 the BOARD at which he stands (-2 without BOARDS)");
        due("without BOARDS", new OneClock().count(2), -2);
        due("with a BOARD that is not OPEN", Tapes.reading("board a 0 0;").count(2), 0);
        says("What is won in all; it may be below 0.");
        OneClock x = Tapes.reading("board a 1 999;board b 1 999;");
        x.drop(0);
        x.drop(1);
        due("below 0", x.sum(), -1998);
    }
}
