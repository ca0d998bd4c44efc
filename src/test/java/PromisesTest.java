/** Each promise of the document by runs whose answers were worked out by hand. */
public final class PromisesTest extends Checks {
    public static void main(String[] args) {
        newObject();
        tape();
        textsWithoutFault();
        syntax();
        room();
        meaning();
        faultChangesNothing();
        readTakesThePlace();
        boards();
        laws();
        lawsThatDivide();
        factsOfLaws();
        lawsAreHeld();
        moves();
        flagByMove();
        offers();
        drops();
        pauses();
        undos();
        begins();
        best();
        rules();
        bestRules();
        dropsBest();
        offersBest();
        hastes();
        spares();
        agreements();
        seatings();
        sharings();
        tellings();
        fitting();
        holding();
        counts();
        tellAll();
    }

    /** Promise 1. */
    private static void newObject() {
        OneClock x = new OneClock();
        int[] want = {0, 0, -2, 120, 1, 0, 1, 0, 1, 0, 0, 0, 0, 0};
        for (int what = 0; what < want.length; what++) {
            due("new count " + what, x.count(what), want[what]);
        }
        due("new place", x.place(), OneClock.NONE);
        due("new sum", x.sum(), 0);
        due("new board", x.board(0, 0), -1);
        due("new undo", x.undo(), false);
        due("new rule minute", x.rule(3, 0, 1), 0);
        due("new bestRule", x.bestRule(2), 0);
        due("new dropBest", x.dropBest(0, 0, 1), 0);
        due("new offerBest", x.offerBest(0, 0, 1), -2);
        due("new haste", x.haste(0, 0, 0), BAD);
        due("new spare", x.spare(0, 0, 0), BAD);
        due("new seatAt", x.seatAt(0, 0, 0), -1);
        due("new tell", x.tell(0, 0), -1);
        due("new fits 1", x.fits(1), -1);
        due("new hold", x.hold(2), true);
        due("new restore", x.restore(2), true);
        due("new restore of nothing", x.restore(1), false);
    }

    /** Promises 2 and 3. */
    private static void tape() {
        OneClock x = new OneClock();
        due("back of nothing", x.back(0), 0);
        due("back of too many", x.back(1), -1);
        for (int n = 1; n <= 100; n++) {
            due("feed " + n, x.feed(0, 0, 0, 0, 0), 20 * n);
        }
        due("feed beyond", x.feed(0, 0, 0, 0, 0), -1);
        due("tape after it", x.count(10), 2000);
        due("back below 0", x.back(-1), -1);
        due("back least", x.back(Integer.MIN_VALUE), -1);
        due("back 2001", x.back(2001), -1);
        due("back 1", x.back(1), 1999);
        due("feed beyond by 19", x.feed(0, 0, 0, 0, 0), -1);
        due("back 19", x.back(19), 1980);
        due("feed to the brim", x.feed(0, 0, 0, 0, 0), 2000);
        due("back all", x.back(2000), 0);
        // "step 7;" by bytes, the highest first; then one that is over is taken back
        due("feed step", x.feed(0x73746570, 0x20373B21, 0, 0, 0), 20);
        due("back to the sign", x.back(13), 7);
        due("read step", x.read(), 0);
        due("step", x.count(4), 7);
    }

    /** Promise 4: what has no fault. */
    private static void textsWithoutFault() {
        fault("", 0, -1);
        fault(" \t\r\n", 0, -1);
        fault("board a 0 0;board b 9 999;", 0, -1);
        fault("board abcdefgh 1 1;worth abcdefgh=1;", 0, -1);
        fault("board a1 1;worth a=1;", 0, -1);
        fault("thinks;", 0, -1);
        fault("thinks 0 60 0060 1;step 9;step 0;clock 500;clock 1;flag 999;flag 0;", 0, -1);
        fault("board a 1 1;worth a=9999+0001;answer a=((((((1))))));draw a=1/0;", 0, -1);
        fault("board a 1 1;worth a=if 1<2 then 3 else if 1<2then 3else if(1)<2 then(3)else if 1<2 then 3 else 4;", 0, -1);
        fault("board a 1 1;worth a=(1)+(1)*(1)/(1)-(((((1)))));", 0, -1);
        fault("board thin 1 1;board thinkss 1 1;board iff 1 1;board boar 1 1;", 0, -1);
        fault("board a 1 1;worth a=1;worth a=2;answer a=1;draw a=1;", 0, -1);
        // 400 tokens: 133 of three and one that is a pair's end
        fault(times(132, "step 1;") + "thinks 1 2;", 0, -1);
        fault(times(133, "step 1;"), 0, -1);
    }

    /** Promises 4 and 5: fault 1. */
    private static void syntax() {
        fault("x", 1, 0);
        fault("  ;", 1, 2);
        fault("board", 1, 5);
        fault("board   ", 1, 8);
        fault("board a 1 1", 1, 11);
        fault("board a 1 1;?", 1, 12);
        fault("board a 1 ?;", 1, 10);
        fault("board A 1 1;", 1, 6);
        fault("board board 1 1;", 1, 6);
        fault("board sum 1 1;", 1, 6);
        fault("board abcdefghi 1 1;", 1, 6);
        fault("board a 12345 1;", 1, 8);
        fault("board a 1 1 1;", 1, 12);
        fault("boarda 1 1;", 1, 0);
        fault("step a;", 1, 5);
        fault("step -1;", 1, 5);
        fault("thinks 1 2 a;", 1, 11);
        fault("worth a 1;", 1, 8);
        fault("worth a=;", 1, 8);
        fault("worth a=1+;", 1, 10);
        fault("worth a=+1;", 1, 8);
        fault("worth a=a;", 1, 8);
        fault("worth a=(1;", 1, 10);
        fault("worth a=1);", 1, 9);
        fault("worth a=();", 1, 9);
        fault("worth a=1<2;", 1, 9);
        fault("worth a=if 1<2<3 then 1 else 1;", 1, 14);
        fault("worth a=if 1 then 1 else 1;", 1, 13);
        fault("worth a=if 1<2 then 1;", 1, 21);
        fault("worth a=if 1<2 else 1;", 1, 15);
        fault("worth a=1+if 1<2 then 1 else 1;", 1, 10);
        fault("worth a=1 1;", 1, 10);
        fault("worth a=\u00e91;", 1, 8);
        fault("worth a=12345;", 1, 8);
        fault("clock 5;;", 1, 8);
        fault("step\0001;", 1, 4);
        fault("step\u000b1;", 1, 4);
    }

    /** Promises 4 and 5: fault 2. */
    private static void room() {
        String six = "board a 1 1;board b 1 1;board c 1 1;board d 1 1;board e 1 1;board f 1 1;";
        fault(six, 0, -1);
        fault(six + "board g 1 1;", 2, 72);
        fault(six + " board a 1", 2, 73);
        fault("board a 1 1;" + six, 2, 72);
        fault("thinks 1 2 3 4;", 0, -1);
        fault("thinks 1 2 3 4 5;", 2, 15);
        fault("thinks 1 2 3 4 99999;", 1, 15);
        fault("thinks 1 2 3 4;thinks 1 2 3 4;", 0, -1);
        String law = "board a 1 1;worth a=";
        fault(law + times(4, "if 1<2 then 3 else ") + "1;", 0, -1);
        fault(law + times(5, "if 1<2 then 3 else ") + "1;", 2, 20 + 4 * 19);
        fault(law + "1;draw a=" + times(4, "if 1<2 then 3 else ") + "1;", 0, -1);
        fault(law + times(6, "(") + "1" + times(6, ")") + ";", 0, -1);
        fault(law + times(7, "(") + "1" + times(7, ")") + ";", 2, 26);
        fault(law + "(1)*(1)+(1)-(1)/(1)*(1)+(1)-(1);", 0, -1);
        fault(law + "((((((1))))))+((((((1))))));", 0, -1);
        fault(law + "if 1<((((((1)))))) then 1 else (((((((1))))))); ", 2, 20 + 37);
        // the 401st token, with which a text would go on, and with which none would
        fault(times(133, "step 1;") + "step 1;", 2, 133 * 7 + 5);
        fault(times(133, "step 1;") + "step;", 1, 133 * 7 + 4);
        fault(times(133, "step 1;") + "step", 1, 133 * 7 + 4);
        fault(times(132, "step 1;") + "thinks 1 2; ?", 1, 132 * 7 + 12);
        fault(times(132, "step 1;") + "thinks 1 2; step 5;", 2, 132 * 7 + 12);
        // form goes ahead of meaning, wherever it stands
        fault("step 10;step 1", 1, 14);
        fault("step 10;thinks 1 2 3 4 5;", 2, 23);
        // the first by its place
        fault("thinks 1 2 3 4 5;?", 2, 15);
        fault("?thinks 1 2 3 4 5;", 1, 0);
    }

    /** Promises 4 and 5: faults 3, 4, 5. */
    private static void meaning() {
        fault("board a 1 1;board a 1 1;", 3, 18);
        fault("board ab 1 1;board a 1 1;board ab 1 1;", 3, 31);
        fault("worth a=1;board a 1 1;", 4, 6);
        fault("board a 1 1;answer b=1;", 4, 19);
        fault("board a 1 1;draw aa=1;", 4, 17);
        fault("board a 10 0;", 5, 8);
        fault("board a 9 1000;", 5, 10);
        fault("board a 10 1000;", 5, 8);
        fault("thinks 60 61;", 5, 10);
        fault("thinks 9999;thinks 1;", 5, 7);
        fault("step 10;", 5, 5);
        fault("clock 0;", 5, 6);
        fault("clock 501;", 5, 6);
        fault("flag 1000;", 5, 5);
        fault("flag 1000;step 10;", 5, 5);
        fault("board a 1 1;board a 10 1;worth b=1;", 3, 18);
        fault("worth b=1;board a 10 1;", 4, 6);
        fault("board a 10 1;board a 1 1;", 5, 8);
        fault("step 1;step 0010;", 5, 12);
        fault("step 10;step 1;", 5, 5);
    }

    private static void faultChangesNothing() {
        OneClock x = Tapes.reading("board a 3 4;board b 1 1;step 3;clock 50;thinks 2 4;flag 6;worth a=5;");
        x.move(0, 0);
        x.tell(1, 7);
        x.hold(1);
        x.move(0, 1);
        Tapes.feed(x, "board z 1 1;clock 7;step 77;");
        due("read with a fault", x.read(), 5);
        due("its place", x.place(), 25);
        int[] want = {2, 7, 0, 50, 3, 6, 2, 2, 0, 0, 0, 2, 1, 1};
        for (int what = 0; what < want.length; what++) {
            due("count behind a fault " + what, x.count(what), want[what]);
        }
        due("sum behind a fault", x.sum(), 10);
        due("move behind a fault", x.move(0, 1), 0);
        due("worth behind a fault", x.sum(), 15);
    }

    private static void readTakesThePlace() {
        OneClock x = Tapes.reading("board a 3 4;step 3;clock 50;thinks 2 4;flag 6;worth a=5;answer a=9;draw a=3;");
        x.move(0, 0);
        x.tell(0, 7);
        x.hold(1);
        Tapes.feed(x, "board b 2 1;");
        due("read anew", x.read(), 0);
        int[] want = {1, 0, 0, 120, 1, 0, 1, 1, 0, 0, 0, 0, 0, 0};
        for (int what = 0; what < want.length; what++) {
            due("count of the new text " + what, x.count(what), want[what]);
        }
        due("sum of the new text", x.sum(), 0);
        due("restore behind a new text", x.restore(1), false);
        due("undo behind a new text", x.undo(), false);
        due("offer by no law", x.offer(0), 0);
        due("move by no law", x.move(0, 0), 0);
        due("worth 1 by no law", x.sum(), 1);
        due("answer 1 by no law", x.board(0, 1), 3);
        due("read of nothing", x.read(), 0);
        due("no boards then", x.count(0), 0);
        due("of several the last one", Tapes.reading("thinks 1 2;thinks 3;step 2;step 4;").count(6), 1);
        due("the last row of THINKS, of none", Tapes.reading("thinks 1 2;thinks;").count(6), 1);
        OneClock y = Tapes.reading("board a 2 0;thinks 5 7;thinks;worth a=2;worth a=think+30;");
        y.move(0, 0);
        due("the last law; one minute", y.sum(), 31);
    }

    /** Promise 6. */
    private static void boards() {
        OneClock x = Tapes.reading("board a 3 4;board b 1 0;board c 0 0;board d 2 5;board e 1 1;thinks 2;answer a=7;draw b=1;");
        int[] steps = {0, 1, 2, 2, 1};
        for (int b = 0; b < 5; b++) {
            due("steps to " + b, x.board(b, 4), steps[b]);
        }
        due("left", x.board(0, 0), 3);
        due("open", x.board(0, 3), 1);
        due("not open without moves", x.board(2, 3), 0);
        x.move(3, 0);
        due("ready", x.board(3, 1), 5);
        due("made", x.board(3, 2), 1);
        due("left then", x.board(3, 0), 1);
        int[] stepsThen = {2, 2, 1, 0, 1};
        for (int b = 0; b < 5; b++) {
            due("steps then to " + b, x.board(b, 4), stepsThen[b]);
        }
        x.offer(1);
        x.drop(3);
        due("ended by a draw", x.board(1, 5), 1);
        due("not open then", x.board(1, 3), 0);
        due("left as it was", x.board(1, 0), 1);
        due("ended by letting go", x.board(3, 5), 2);
        due("not ended", x.board(0, 5), 0);
        due("no such board", x.board(5, 0), -1);
        due("no such board below", x.board(-1, 0), -1);
        due("no such what", x.board(0, 6), -1);
        due("no such what below", x.board(0, -1), -1);
        due("one alone", Tapes.reading("board a 1 0;").board(0, 4), 0);
        OneClock six = Tapes.reading("board a 1 0;board b 1 0;board c 1 0;board d 1 0;board e 1 0;board f 1 0;");
        due("half the round", six.board(3, 4), 3);
        due("the shorter way", six.board(4, 4), 2);
    }


    private static void laws() {
        due("rank", worth("1+2*3"), 7);
        due("from the left", worth("20-5-3"), 12);
        due("from the left too", worth("100/10/2"), 5);
        due("division and multiplication", worth("7/2*2"), 6);
        due("round brackets", worth("(1+2)*3"), 9);
        due("less", worth("0-7"), -7);
        due("towards 0", worth("(0-7)/2"), -3);
        due("towards 0 by less", worth("7/(0-2)"), -3);
        // 9998000100 less 2 to the 33rd is 1408065508
        due("wraps", worth("9999*9999*100-1408*1000*1000-65*1000-500"), 8);
        due("wraps at the edge", worth("(2147*1000*1000+483*1000+647+1)/(0-1)/1000/1000"), -999);
        due("if holds", worth("if 1<2 then 3 else 4"), 3);
        due("if alike", worth("if 2<2 then 3 else 4"), 4);
        due("if more", worth("if 3<2 then 3 else 4"), 4);
        due("the first that holds", worth("if 3<2 then 3 else if 1<2 then 5 else if 1<2 then 6 else 4"), 5);
        due("the last else", worth("if 3<2 then 3 else if 3<2 then 5 else if 3<2 then 6 else if 2<1 then 7 else 4"), 4);
        due("compares as it wraps", worth("if (2147*1000*1000+483*1000+647)+1<0 then 3 else 4"), 3);
        due("deep", worth("((((((1+2)*2)-3)*4)+5)*2)"), 34);
        due("as many waiting parts as can be",
            worth("if 1<1+1*(1+1*(1+1*(1+1*(1+1*(1+1*(1+1*1)))))) then 3 else 4"), 3);
        due("waiting parts", worth("1+2*(1+2*(1+2*(1+2*(1+2*(1+2*3)))))"), 255);
    }

    private static void lawsThatDivide() {
        due("by 0", worth("1/0"), 0);
        due("all of it is 0", worth("5+1/0"), 0);
        due("all of it is 0 by a product with 0", worth("7-0*(1/(3-think))"), 0);
        due("in an if", worth("if 1/0<5 then 3 else 4"), 0);
        due("in an if behind <", worth("if 5<1/0 then 3 else 4"), 0);
        due("in a then", worth("if 1<2 then 3/0 else 4"), 0);
        due("not looked at in a then", worth("if 2<1 then 3/0 else 4"), 4);
        due("not looked at in an else", worth("if 1<2 then 3 else 4/0"), 3);
        due("not looked at in a later if", worth("if 1<2 then 3 else if 1/0<2 then 5 else 4"), 3);
        due("0 by something", worth("0/5+6"), 6);
    }

    private static void factsOfLaws() {
        String text = "board a 5 0;board b 4 0;step 2;thinks 3 5;clock 99;answer a=move+20;";
        String[] facts = {"think", "move", "time", "idle", "left", "sum"};
        int[] first = {5, 0, 0, 0, 5, 0};
        int[] behind = {3, 1, 32, 7, 4, 11};
        for (int k = 0; k < facts.length; k++) {
            OneClock x = Tapes.reading(text + "worth b=11;worth a=" + facts[k] + ";");
            x.move(0, 1);
            due("first " + facts[k], x.sum(), first[k]);
            int won = x.sum();
            x.move(1, 0);
            // at b from 7 to 10, a is ready at 25; he waits till 30 and is there at 32
            x.pause(20);
            due("minute", x.count(1), 30);
            x.move(0, 0);
            int due = k == 5 ? 11 + won : behind[k];
            due("behind " + facts[k], x.sum() - won - 11, due);
        }
        // of a draw: asked at 32, idle since 25, nothing is thought
        int[] ofDraw = {0, 1, 32, 7, 4, 16};
        for (int k = 0; k < facts.length; k++) {
            OneClock x = Tapes.reading(text + "worth b=11;worth a=5;draw a=" + facts[k] + ";");
            x.move(0, 1);
            x.move(1, 0);
            x.pause(20);
            due("draw by " + facts[k], x.offer(0), k == 0 ? 0 : 1);
            due("sum by " + facts[k], x.sum(), 16 + ofDraw[k]);
            due("minute by " + facts[k], x.count(1), k == 0 ? 33 : 32);
        }
        // the answer looks at what was won without this move, and at the moves left with it
        int[] ready = {5 + 3, 5, 5 + 2, 5 + 2, 5 + 4, 5};
        for (int k = 0; k < facts.length; k++) {
            OneClock x = Tapes.reading("board a 4 0;worth a=6;thinks 3;answer a=" + facts[k] + ";");
            x.pause(2);
            x.move(0, 0);
            due("answer by " + facts[k], x.board(0, 1), ready[k]);
        }
    }

    private static void lawsAreHeld() {
        due("worth at most", worth("1000"), 999);
        due("worth 999", worth("999"), 999);
        due("worth at least", worth("0-1000"), -999);
        due("worth -999", worth("0-999"), -999);
        OneClock x = Tapes.reading("board a 3 0;board b 1 0;thinks 0;answer a=100-move*200;draw a=1000;draw b=0-5;step 0;clock 500;");
        x.move(0, 0);
        due("answer at most", x.board(0, 1), 99);
        x.move(0, 0);
        due("answer at least", x.board(0, 1), 99);
        due("no draw below 0", x.offer(1), 0);
        due("nothing lost by it", x.sum(), 2);
        due("a draw", x.offer(0), 1);
        due("draw at most", x.sum(), 1001);
    }

    /** Promises 7 and 8. */
    private static void moves() {
        OneClock x = Tapes.reading("board a 2 0;board b 1 0;board c 1 0;board d 1 0;step 3;thinks 4 0;clock 30;"
            + "worth a=0-6;answer a=10;worth c=8;");
        due("no such board", x.move(4, 0), -1);
        due("no such board below", x.move(-1, 0), -1);
        due("no such think", x.move(0, 2), -1);
        due("no such think below", x.move(0, -1), -1);
        due("nothing happens", x.count(11), 0);
        due("move", x.move(0, 0), 0);
        due("sum below 0", x.sum(), -6);
        due("ready at", x.board(0, 1), 14);
        due("minute", x.count(1), 4);
        due("walks round", x.move(3, 1), 0);
        due("minute there", x.count(1), 7);
        due("stands there", x.count(2), 3);
        due("waits till ready", x.move(0, 0), 0);
        due("minute behind waiting", x.count(1), 18);
        due("none left", x.board(0, 0), 0);
        due("not open", x.move(0, 0), 2);
        due("to the other side", x.move(2, 0), 0);
        due("minute there then", x.count(1), 28);
        due("sum", x.sum(), -6 - 6 + 8 + 1);
        due("undoable", x.count(11), 4);
        OneClock y = Tapes.reading("board a 2 0;thinks 7;clock 7;flag 5;");
        due("to CLOCK just so", y.move(0, 0), 0);
        due("no flag", y.count(9), 0);
        due("but over", y.count(8), 1);
        due("still open", y.board(0, 3), 1);
        due("nothing at CLOCK", y.move(0, 0), 2);
        due("sum without the flag", y.sum(), 1);
        due("an ended board", endedBoard().move(0, 0), 2);
    }

    private static OneClock endedBoard() {
        OneClock x = Tapes.reading("board a 2 0;board b 1 0;");
        x.drop(0);
        return x;
    }

    private static void flagByMove() {
        OneClock x = Tapes.reading("board a 2 0;board b 2 0;step 2;thinks 7 5;clock 8;flag 5;worth b=50;");
        due("flag", x.move(1, 0), 1);
        due("minute CLOCK", x.count(1), 8);
        due("stands there", x.count(2), 1);
        due("flag is lost", x.sum(), -5);
        due("it fell", x.count(9), 1);
        due("over", x.count(8), 1);
        due("no move less", x.board(1, 0), 2);
        due("no move made", x.board(1, 2), 0);
        due("ready as it was", x.board(1, 1), 0);
        due("open boards", x.count(7), 2);
        due("no pause then", x.pause(1), -1);
        due("no offer then", x.offer(0), 3);
        due("no drop then", x.drop(0), false);
        due("no such ones all the same", x.move(2, 0), -1);
        due("undone", x.undo(), true);
        due("not fallen then", x.count(9), 0);
        due("minute 0 then", x.count(1), 0);
        due("sum then", x.sum(), 0);
        due("by less", x.move(1, 1), 0);
    }

    /** Promise 9. */
    private static void offers() {
        OneClock x = Tapes.reading("board a 2 0;board b 2 0;board c 1 0;step 4;thinks 1;clock 20;flag 7;"
            + "draw a=idle-3;draw b=30;answer a=9;");
        due("no such board", x.offer(3), -1);
        due("no such board below", x.offer(-1), -1);
        due("no draw", x.offer(0), 0);
        due("a minute later", x.count(1), 1);
        due("nothing won", x.sum(), 0);
        x.move(0, 0);
        due("walks back", x.offer(2), 0);
        due("minute behind walking", x.count(1), 7);
        due("stands there", x.count(2), 2);
        due("waits till ready", x.offer(0), 0);
        due("minute behind waiting", x.count(1), 12);
        due("open still", x.board(0, 3), 1);
        x.pause(3);
        due("a draw", x.offer(0), 1);
        due("idle less 3", x.sum(), 1 + 1);
        due("no minute more", x.count(1), 15);
        due("ended", x.board(0, 5), 1);
        due("not open", x.offer(0), 3);
        x.pause(1);
        due("just at CLOCK", x.offer(1), 1);
        due("won there", x.sum(), 32);
        due("minute CLOCK", x.count(1), 20);
        due("over, no flag", x.count(8) + 10 * x.count(9), 1);
        due("undone", x.undo(), true);
        x.pause(1);
        due("the flag", x.offer(1), 2);
        due("flag lost", x.sum(), 2 - 7);
        due("stands where it fell", x.count(2), 1);
        due("not ended by it", x.board(1, 5), 0);
        due("over", x.offer(1), 3);
        OneClock y = Tapes.reading("board a 1 0;board b 1 0;step 5;clock 5;flag 9;");
        due("no draw at CLOCK", y.offer(1), 0);
        due("not behind CLOCK", y.count(1), 5);
        due("no flag by it", y.sum() + y.count(9), 0);
        due("over by it", y.count(8), 1);
    }

    /** Promise 10. */
    private static void drops() {
        OneClock x = Tapes.reading("board a 2 30;board b 2 4;board c 0 8;step 4;");
        due("no such board", x.drop(3), false);
        due("no such board below", x.drop(-1), false);
        due("not open", x.drop(2), false);
        due("let go", x.drop(1), true);
        due("lost", x.sum(), -4);
        due("he stays", x.count(2), 0);
        due("no minute", x.count(1), 0);
        due("again", x.drop(1), false);
        due("not over yet", x.count(8), 0);
        due("the last one", x.drop(0), true);
        due("lost in all", x.sum(), -34);
        due("over", x.count(8), 1);
        due("undoable", x.count(11), 2);
        OneClock y = Tapes.reading("board a 2 30;clock 5;");
        y.pause(5);
        due("not at CLOCK", y.drop(0), false);
    }

    /** Promise 11. */
    private static void pauses() {
        OneClock x = Tapes.reading("board a 2 30;clock 500;flag 3;");
        due("none", x.pause(0), -1);
        due("below", x.pause(-1), -1);
        due("too many", x.pause(501), -1);
        due("nothing happens", x.count(11), 0);
        due("one", x.pause(1), 1);
        due("more", x.pause(7), 8);
        due("to CLOCK at most", x.pause(500), 500);
        due("over", x.count(8), 1);
        due("no flag", x.count(9) + x.sum(), 0);
        due("over: none", x.pause(1), -1);
        due("no boards: none", new OneClock().pause(1), -1);
        due("no open ones: none", Tapes.reading("board a 0 0;").pause(1), -1);
    }

    /** Promise 12. */
    private static void undos() {
        OneClock x = Tapes.reading("board a 9 30;board b 3 5;clock 400;draw b=4;thinks 2;answer a=6;");
        due("none yet", x.undo(), false);
        x.move(0, 0);
        x.pause(3);
        x.offer(1);
        x.drop(0);
        due("four", x.count(11), 4);
        x.move(0, 0);
        x.offer(1);
        x.drop(1);
        x.pause(1);
        due("what did not happen is none", x.count(11), 4);
        due("sum", x.sum(), 1 + 4 - 30);
        due("undo drop", x.undo(), true);
        due("sum", x.sum(), 5);
        due("not ended", x.board(0, 5), 0);
        due("undo offer", x.undo(), true);
        due("back at", x.count(2), 0);
        due("not ended", x.board(1, 5), 0);
        due("undo pause", x.undo(), true);
        due("minute", x.count(1), 2);
        due("ready", x.board(0, 1), 8);
        due("undo move", x.undo(), true);
        due("minute 0", x.count(1), 0);
        due("ready 0", x.board(0, 1), 0);
        due("left", x.board(0, 0), 9);
        due("none", x.undo(), false);
        for (int n = 1; n <= 53; n++) {
            x.pause(1);
        }
        due("50 can be", x.count(11), 50);
        for (int n = 0; n < 50; n++) {
            due("undo " + n, x.undo(), true);
        }
        due("minute behind three", x.count(1), 3);
        due("no more", x.undo(), false);
        due("no more can be", x.count(11), 0);
        x.pause(1);
        due("and on", x.undo(), true);
        due("minute again", x.count(1), 3);
    }

    /** Promise 13. */
    private static void begins() {
        OneClock x = Tapes.reading("board a 2 0;board b 1 0;board c 0 0;step 9;thinks 1 3;clock 12;answer a=20;");
        due("at once", x.begins(0), 0);
        due("behind walking", x.begins(1), 9);
        due("not open", x.begins(2), -2);
        due("no such one", x.begins(3), -1);
        due("no such one below", x.begins(-1), -1);
        x.move(0, 0);
        due("behind waiting, behind CLOCK", x.begins(0), 21);
        x.pause(5);
        due("behind CLOCK by walking", x.begins(1), 15);
        x.pause(50);
        due("when all is over", x.begins(1), 21);
        OneClock y = Tapes.reading("board a 2 0;");
        y.drop(0);
        due("ended", y.begins(0), -2);
    }

    /** Promises 14 and 15. */
    private static void best() {
        OneClock x = Tapes.reading("board a 2 0;board b 1 0;step 1;thinks 1 2;worth a=think*3;worth b=20-time*5;answer a=0;");
        due("depth 0", x.best(0), BAD);
        due("depth 5", x.best(5), BAD);
        due("depth 0 at", x.bestAt(0, 0), -1);
        due("depth 5 at", x.bestAt(5, 0), -1);
        due("i below 0", x.bestAt(1, -1), -1);
        due("depth 0 ahead of i", x.bestAt(0, 9), -1);
        // b from 1 on: 15, a: 3 or 6
        due("best 1", x.best(1), 15);
        due("best 1 at 0", x.bestAt(1, 0), 10);
        due("best 1 at 1", x.bestAt(1, 1), -2);
        due("best 2", x.best(2), 21);
        due("best 2 at 0", x.bestAt(2, 0), 10);
        due("best 2 at 1", x.bestAt(2, 1), 1);
        due("best 3", x.best(3), 27);
        due("fewer by then", x.best(4), 27);
        due("fewer by then at 2", x.bestAt(4, 2), 1);
        due("fewer by then at 3", x.bestAt(4, 3), -2);
        due("nothing happens", x.count(1) + x.sum() + x.count(11), 0);
        x.move(1, 0);
        due("on from here", x.best(1), 21);
        due("on from here at", x.bestAt(1, 0), 1);
        x.undo();
        due("undone", x.best(1), 15);
        x.hold(0);
        x.move(1, 0);
        x.best(1);
        x.restore(0);
        due("restored", x.best(1), 15);
        x.best(1);
        x.drop(1);
        due("let go", x.best(1), 6);
        x.pause(500);
        due("over", x.best(2), 0);
        due("over at", x.bestAt(2, 0), -2);
        OneClock alike = Tapes.reading("board a 1 0;board b 1 0;thinks 2 1;worth a=if think<2 then 5 else 4;worth b=5;clock 9;");
        due("alike", alike.best(1), 5);
        due("the first board", alike.bestAt(1, 0), 1);
        due("alike of two", alike.best(2), 10);
        due("the first of them", alike.bestAt(2, 0), 1);
        due("the first of THINKS", alike.bestAt(2, 1), 10);
        OneClock flag = Tapes.reading("board a 1 0;board b 9 0;step 3;thinks 2;clock 4;flag 5;worth a=0-9;");
        due("the flag is less dear", flag.best(1), -5);
        due("by b", flag.bestAt(1, 0), 10);
        due("all is over by the flag", flag.bestAt(2, 1), -2);
        OneClock asked = Tapes.reading("board a 1 0;board b 1 0;worth b=4;");
        due("asked at first", asked.bestAt(1, 0), 10);
        asked.move(1, 0);
        due("asked again", asked.bestAt(1, 0), 0);
        due("asked for more", asked.bestAt(2, 1), -2);
        OneClock dear = Tapes.reading("board a 4 0;board b 4 0;thinks 0;worth a=if move<3 then 0-50 else 999;worth b=1;step 0;answer a=0;answer b=0;");
        due("it pays late", dear.best(4), 849);
        due("its last one", dear.bestAt(4, 3), 0);
        due("not in three", dear.best(3), 3);
    }

    /** Promise 16. */
    private static void rules() {
        OneClock x = Tapes.reading("board a 1 0;board b 3 0;board c 2 0;step 2;thinks 3 1;clock 100;flag 5;"
            + "worth a=10+time;worth b=if time<10 then 30-move*20 else 2;worth c=idle;answer b=6;");
        due("no such rule", x.rule(4, 0, 0), BAD);
        due("no such rule below", x.rule(-1, 0, 0), BAD);
        due("no such think", x.rule(0, 2, 0), BAD);
        due("no such think below", x.rule(0, -1, 0), BAD);
        due("no such what", x.rule(0, 0, 2), BAD);
        due("no such what below", x.rule(0, 0, -1), BAD);
        // rule 0: a 0-3, b from 5 (c alike) to 8, c from 10 to 13, c 14 (ready) to 17, b 19-22, b 28-31
        due("soonest", x.rule(0, 0, 0), 10 + 30 + 10 + 0 + 2 + 2);
        due("soonest, over", x.rule(0, 0, 1), 31);
        // rule 1: b 2-5, then b (2 like c) 11-14, c of 2 16-19, a (1 like b, c) 21-24, b 26-29, c 31-34
        due("most left", x.rule(1, 0, 0), 30 + 2 + 16 + 31 + 2 + (31 - 20));
        due("most left, over", x.rule(1, 0, 1), 34);
        // rule 2: a 0-3, b 5-8 (ready 14), c 10-13 (ready 14), b 15-18 (24), c 20-23, b 25-28
        due("ready first", x.rule(2, 0, 0), 10 + 30 + 10 + 2 + 6 + 2);
        due("ready first, over", x.rule(2, 0, 1), 28);
        // rule 0 by 1: a 0-1, b 3-4, c 6-7, c 8-9 (b is ready at 10), b 11-12, b 18-19
        due("by the other think", x.rule(0, 1, 0), 10 + 30 + 6 + 0 + 2 + 2);
        due("by the other think, over", x.rule(0, 1, 1), 19);
        due("nothing happens", x.count(1) + x.sum() + x.count(11), 0);
        OneClock y = Tapes.reading("board a 2 0;board b 2 0;step 1;thinks 4;clock 60;worth a=time;worth b=10-idle;answer a=0;answer b=20;");
        // b from 1 on (9, a only 0); then b from 25 on (10, a from 6 on only 6); then a from 30 and 34 on
        due("worth", y.rule(3, 0, 0), 9 + 10 + 30 + 34);
        due("worth, over", y.rule(3, 0, 1), 29 + 5 + 4);
        OneClock f = Tapes.reading("board a 3 0;thinks 4;clock 9;flag 5;answer a=0;");
        due("by the flag", f.rule(0, 0, 0), 2 - 5);
        due("flag at CLOCK", f.rule(0, 0, 1), 9);
        f.drop(0);
        due("all is over", f.rule(1, 0, 1), 0);
        due("what is won then", f.rule(1, 0, 0), 0);
        f.undo();
        f.move(0, 0);
        due("from now on", f.rule(0, 0, 0), -3);
    }

    /** Promise 17. */
    private static void bestRules() {
        OneClock x = Tapes.reading("board a 1 0;board b 2 0;thinks 1 5;worth a=time;worth b=think;step 0;");
        due("no such what", x.bestRule(3), BAD);
        due("no such what below", x.bestRule(-1), BAD);
        // with 5: soonest a (0), b, b: 10; most left: b 5, then a at 5: 5, b 5: 15
        due("rule", x.bestRule(0), 1);
        due("think", x.bestRule(1), 1);
        due("won", x.bestRule(2), 15);
        OneClock alike = Tapes.reading("board a 2 0;thinks 3 3 1;");
        due("the first rule", alike.bestRule(0), 0);
        due("the first think", alike.bestRule(1), 0);
        due("won alike", alike.bestRule(2), 2);
        OneClock less = Tapes.reading("board a 2 0;thinks 3 1;worth a=0-think;");
        due("below 0", less.bestRule(2), -2);
        due("below 0 by", less.bestRule(1), 1);
        less.drop(0);
        due("over", less.bestRule(0) * 100 + less.bestRule(1) * 10 + less.bestRule(2), 0);
    }

    /** Promise 18. */
    private static void dropsBest() {
        OneClock x = Tapes.reading("board a 2 3;board b 1 2;board c 1 9;board d 1 5;step 0;thinks 1;worth a=0-4;worth b=0-2;worth c=0-5;worth d=0-6;");
        due("no such rule", x.dropBest(4, 0, 0), BAD);
        due("no such think", x.dropBest(0, 1, 0), BAD);
        due("no such what", x.dropBest(0, 0, 2), BAD);
        due("no such what below", x.dropBest(0, 0, -1), BAD);
        // a costs 8 or 3, b 2 or 2 (alike: the fewest), c 5 or 9, d 6 or 5
        due("won", x.dropBest(0, 0, 0), -3 - 2 - 5 - 5);
        due("boards", x.dropBest(0, 0, 1), 1 + 8);
        x.drop(3);
        due("of open ones", x.dropBest(0, 0, 1), 1);
        due("what was lost stays", x.dropBest(0, 0, 0), -15);
        // by either alone 5 more minutes are had for the other one: the least bits
        OneClock alike = Tapes.reading("board a 1 0;board b 1 0;thinks 3;clock 4;flag 7;step 0;");
        due("alike won", alike.dropBest(0, 0, 0), 1);
        due("alike boards", alike.dropBest(0, 0, 1), 1);
        // one alone that is as good as two
        OneClock few = Tapes.reading("board a 1 1;board b 1 0;board c 1 1;worth a=0-1;worth b=0-3;worth c=0-1;");
        due("the fewest", few.dropBest(0, 0, 1), 2);
        few.pause(500);
        due("over", few.dropBest(0, 0, 1), 0);
        OneClock bits = Tapes.reading("board a 1 0;board b 1 0;board c 1 0;thinks 3;clock 4;flag 7;step 0;worth c=0-1;");
        due("two of them", bits.dropBest(0, 0, 1), 5);
        OneClock fewer = Tapes.reading("board a 1 1;board b 1 1;board c 1 2;step 0;thinks 3;clock 4;flag 9;worth a=0;worth b=1;worth c=2;");
        // the flag falls if two are left; c alone -2 + 2, b alone -3 + 1, a alone -3 + 0, none of them -4
        due("won by two", fewer.dropBest(0, 0, 0), 0);
        due("which two", fewer.dropBest(0, 0, 1), 3);
        // without a: b 3, c 3 less one; fewest ahead of least bits: {c} (4) ahead of {a, b} (3)
        OneClock order = Tapes.reading("board a 1 0;board b 1 0;board c 1 0;step 0;thinks 1;worth a=0;worth b=0;worth c=0-1;");
        due("the fewest ahead of bits", order.dropBest(0, 0, 1), 4);
    }

    /** Promise 19. */
    private static void offersBest() {
        OneClock x = Tapes.reading("board a 2 0;board b 1 0;board c 1 0;step 1;thinks 1;worth a=2;draw a=3;draw b=7;draw c=9-time*2;");
        due("no such rule", x.offerBest(-1, 0, 0), BAD);
        due("no such think", x.offerBest(0, -1, 0), BAD);
        due("no such what", x.offerBest(0, 0, 2), BAD);
        due("no such what below", x.offerBest(0, 0, -1), BAD);
        // none: 4 + 1 + 1; a: 3 + 1 + 1; b: 7 + 4 + 1; c: 7 + 4 + 1
        due("won", x.offerBest(0, 0, 0), 12);
        due("the first", x.offerBest(0, 0, 1), 1);
        x.offer(1);
        due("then", x.offerBest(0, 0, 0), 7 + 9 - 4 + 4);
        due("at", x.offerBest(0, 0, 1), 2);
        x.drop(2);
        due("none then", x.offerBest(0, 0, 1), -2);
        due("won by none", x.offerBest(0, 0, 0), 7 + 4);
        OneClock alike = Tapes.reading("board a 1 0;draw a=1;");
        due("none ahead of all", alike.offerBest(0, 0, 1), -2);
        OneClock over = Tapes.reading("board a 1 0;draw a=9;clock 5;");
        due("not over", over.offerBest(0, 0, 1), 0);
        over.pause(5);
        due("over", over.offerBest(0, 0, 1), -2);
        due("over won", over.offerBest(0, 0, 0), 0);
        // a draw that is refused costs a minute, and makes idle longer by it
        OneClock refused = Tapes.reading("board a 1 0;worth a=idle*5;");
        due("refused", refused.offerBest(0, 0, 0), 5);
        due("refused at", refused.offerBest(0, 0, 1), 0);
        OneClock flag = Tapes.reading("board a 1 0;board b 1 0;step 9;thinks 1;clock 5;flag 3;worth a=0-5;");
        due("by the flag", flag.offerBest(0, 0, 0), -3);
        due("by the flag at", flag.offerBest(0, 0, 1), 1);
    }

    /** Promise 20. */
    private static void hastes() {
        OneClock x = Tapes.reading("board a 3 0;board b 1 0;thinks 2;step 0;clock 12;answer a=5;worth a=4;flag 3;worth b=9-time;");
        due("no such board", x.haste(2, 0, 0), BAD);
        due("no such board below", x.haste(-1, 0, 0), BAD);
        due("no such rule", x.haste(0, 4, 0), BAD);
        due("no such think", x.haste(0, 0, 1), BAD);
        // a 0-2, b 2-4 (7), a 7-9, a 14: flag: 4 + 7 + 4 - 3; at once: a a a b from 6: 12 + 3
        due("more", x.haste(0, 0, 0), 15 - 12);
        due("none", x.haste(1, 0, 0), 0);
        x.move(0, 0);
        // from 2 on: b 7, a at 7, flag: 4 + 7 + 4 - 3 = 12; what runs now stays: b 7, a 7-9, a 9-11
        due("from now on", x.haste(0, 0, 0), 19 - 12);
        OneClock less = Tapes.reading("board a 2 0;thinks 1;worth a=idle+time;answer a=4;");
        due("less", less.haste(0, 0, 0), -4);
        less.pause(500);
        due("over", less.haste(0, 0, 0), 0);
    }

    /** Promise 21. */
    private static void spares() {
        OneClock x = Tapes.reading("board a 2 0;board b 1 0;board c 0 0;thinks 3 1;step 2;clock 30;answer a=4;");
        due("no such board", x.spare(3, 0, 0), BAD);
        due("no such board below", x.spare(-1, 0, 0), BAD);
        due("no such rule", x.spare(0, 4, 0), BAD);
        due("no such think", x.spare(0, 0, 2), BAD);
        due("not open", x.spare(2, 0, 0), -2);
        // behind a till n: b n+2 to n+5, a n+7 to n+10; 30 itself ends all at once without the flag
        due("the longest", x.spare(0, 0, 0), 30);
        // n = 28 at b: at minute 30 all is over, no flag
        due("at b", x.spare(1, 0, 0), 28);
        OneClock two = Tapes.reading("board a 2 0;thinks 3;clock 100;answer a=4;");
        // n <= 60; n + 4 + 3 <= 100
        due("60 at most", two.spare(0, 0, 0), 60);
        two.pause(50);
        due("not the longest alone", two.spare(0, 0, 0), 50);
        two.pause(1);
        two.move(0, 0);
        due("one left", two.spare(0, 0, 0), 42);
        two.pause(41);
        due("till it is minute CLOCK", two.spare(0, 0, 0), 5);
        two.pause(5);
        due("over", two.spare(0, 0, 0), -2);
        due("no such one though over", two.spare(1, 0, 0), BAD);
        OneClock none = Tapes.reading("board a 1 0;board b 1 0;step 9;clock 5;");
        due("none by walking", none.spare(1, 0, 0), -2);
        // 0 minutes: 0 and then at b 5 + 4 > 8: the flag; 8 ends all at CLOCK
        OneClock gap = Tapes.reading("board a 1 0;board b 1 0;step 5;thinks 4;clock 8;");
        due("8 though not 7", gap.spare(0, 0, 0), 8);
        OneClock long60 = Tapes.reading("board a 2 0;thinks 50;clock 100;answer a=0;");
        due("50 though not 51", long60.spare(0, 0, 0), 50);
    }

    /** Promise 22. */
    private static void agreements() {
        OneClock x = Tapes.reading("board a 2 0;board b 2 0;board c 1 0;step 0;thinks 1;clock 60;worth a=10-time;worth b=8-time;answer b=2;");
        due("no such first", x.agreed(3, 0, 0, 0, 0), BAD);
        due("no such other", x.agreed(0, -1, 0, 0, 0), BAD);
        due("no such rule", x.agreed(0, 1, 4, 0, 0), BAD);
        due("no such think", x.agreed(0, 1, 0, 1, 0), BAD);
        due("no such what", x.agreed(0, 1, 0, 0, 2), BAD);
        due("one and the same", x.agreed(1, 1, 0, 0, 0), BAD);
        // a at 0, b at 1, c at 2, a at max(3, 2 + x), b at max(4, 4 + y): both as late as can be:
        // a ready 11, b ready 13
        due("won", x.agreed(0, 1, 0, 0, 0), 10 + 7 + 1 + (10 - 11) + (8 - 13));
        due("agreed", x.agreed(0, 1, 0, 0, 1), 99);
        due("turned round", x.agreed(1, 0, 0, 0, 1), 99);
        // with c, that is moved at once only: nothing by c, so 0 of it
        due("c has none", x.agreed(2, 0, 0, 0, 1), 9);
        due("c has none, turned round", x.agreed(0, 2, 0, 0, 1), 90);
        x.move(0, 0);
        due("what runs stays", x.agreed(0, 1, 0, 0, 0), 10 + 7 + (10 - 2) + 1 + (8 - 13));
        due("alike: the least", x.agreed(0, 1, 0, 0, 1), 9);
        // always: ten each time, behind what the law was held to
        OneClock y = Tapes.reading("board a 3 0;board b 1 0;step 0;thinks 0;clock 500;answer a=200;worth a=0-time;worth b=0;");
        due("each time", y.agreed(0, 1, 0, 0, 0), -108 - 216);
        due("each time by", y.agreed(0, 1, 0, 0, 1), 90);
        due("at once it is less", y.rule(0, 0, 0), -99 - 198);
        due("nothing happens", y.count(1), 0);
        // the first least: from 3 on the flag falls
        OneClock z = Tapes.reading("board a 2 0;board b 1 0;step 0;thinks 1;clock 5;answer a=1;flag 50;");
        due("the flag", z.agreed(0, 1, 0, 0, 0), 2 - 50);
        due("the flag by the least", z.agreed(0, 1, 0, 0, 1), 30);
        due("the flag by the other", z.agreed(1, 0, 0, 0, 1), 3);
        // either alone can let the flag fall: the least of the first one goes ahead
        OneClock w = Tapes.reading("board a 2 0;board b 2 0;step 0;thinks 1;clock 9;flag 50;worth a=0;worth b=0;");
        due("by either", w.agreed(0, 1, 0, 0, 0), -50);
        due("the least of the first", w.agreed(0, 1, 0, 0, 1), 6);
    }

    /** Promises 23 and 24. */
    private static void seatings() {
        OneClock x = Tapes.reading("board a 1 0;board b 1 0;board c 1 0;board d 1 0;step 4;thinks 1;clock 99;"
            + "worth a=40-time;worth b=30-time*2;worth c=0;worth d=0;");
        due("no such rule", x.seats(4, 0), BAD);
        due("no such think", x.seats(0, 1), BAD);
        due("no such rule at", x.seatAt(-1, 0, 0), -1);
        due("no such think at", x.seatAt(0, -1, 0), -1);
        due("no such seat", x.seatAt(0, 0, 4), -1);
        due("no such seat below", x.seatAt(0, 0, -1), -1);
        // b at 0: 30, a beside it at 5: 35; of orders with a beside b first a as the 2nd seat
        due("seats", x.seats(0, 0), 65);
        due("seat 0", x.seatAt(0, 0, 0), 1);
        due("seat 1", x.seatAt(0, 0, 1), 0);
        due("seat 2", x.seatAt(0, 0, 2), 2);
        due("seat 3", x.seatAt(0, 0, 3), 3);
        x.move(0, 0);
        due("from minute 0 on", x.seats(0, 0), 65);
        due("nothing happens", x.board(1, 4), 1);
        due("no boards", new OneClock().seats(0, 0), BAD);
        OneClock alike = Tapes.reading("board a 1 0;board b 1 0;board c 1 0;");
        due("alike", alike.seats(2, 0), 3);
        due("the first by numbers", alike.seatAt(2, 0, 0) * 100 + alike.seatAt(2, 0, 1) * 10 + alike.seatAt(2, 0, 2), 12);
        // the rule's first board is told by its number, not by its seat: he begins at b, but goes to a
        OneClock first = Tapes.reading("board a 2 0;board b 2 0;step 3;thinks 0;answer a=0;answer b=0;worth b=time;worth a=0;");
        due("first by number", first.seats(1, 0), 6 + 12);
        due("it begins at", first.seatAt(1, 0, 0), 1);
        Tapes.feed(x, "board a 1 0;");
        x.read();
        due("of the new text", x.seats(0, 0), 1);
        due("of the new text at", x.seatAt(0, 0, 0), 0);
        due("one seat", x.seatAt(0, 0, 1), -1);
        OneClock asked = Tapes.reading("board a 1 0;board b 1 0;step 5;thinks 60 0 1;worth b=if think<1 then 0 else 70-time;worth a=think;");
        due("asked at first", asked.seatAt(0, 0, 0), 1);
        due("by another think", asked.seatAt(0, 1, 0), 0);
        due("won by a rule", asked.seats(0, 0), 70);
        due("won by another one", asked.seats(1, 2), 65);
        due("won by another one, too", asked.seats(2, 1), 0);
    }

    /** Promise 25. */
    private static void sharings() {
        OneClock x = Tapes.reading("board a 1 0;board b 1 0;board c 1 0;step 3;thinks 2;clock 50;worth a=20-time;worth b=20-time*2;worth c=30-time*3;");
        due("no such rule", x.shared(4, 0, 0), BAD);
        due("no such think", x.shared(0, 1, 0), BAD);
        due("no such what", x.shared(0, 0, 2), BAD);
        due("no such what below", x.shared(0, 0, -1), BAD);
        // each begins at his first board: a and b one by one from 0 on, c behind one of them at 5:
        // a alone 20, b then c: 20 + 15; a then c 35, b 20; a then b: 20 + 10, c 30: 60
        due("shared", x.shared(0, 0, 0), 60);
        due("the least bits", x.shared(0, 0, 1), 3);
        x.move(0, 0);
        due("from minute 0 on", x.shared(0, 0, 0), 60);
        OneClock none = Tapes.reading("board a 1 5;worth a=7;");
        due("the first one has none", none.shared(0, 0, 1), 0);
        due("the other one has all", none.shared(0, 0, 0), 7);
        OneClock two = Tapes.reading("board a 2 0;board b 2 0;thinks 4;clock 8;flag 30;answer a=0;answer b=0;step 0;");
        due("a clock of his own", two.shared(0, 0, 0), 4);
        due("one for each", two.shared(0, 0, 1), 1);
        OneClock sums = Tapes.reading("board a 1 0;board b 1 0;step 0;worth a=5;worth b=10-sum;");
        due("a sum of his own", sums.shared(0, 0, 0), 15);
        due("a sum of his own by", sums.shared(0, 0, 1), 1);
        OneClock flags = Tapes.reading("board a 1 900;board b 1 900;thinks 9;clock 5;flag 30;");
        due("one flag is enough", flags.shared(0, 0, 0), -30);
        due("one flag by", flags.shared(0, 0, 1), 0);
    }

    /** Promises 26 and 27. */
    private static void tellings() {
        OneClock x = Tapes.reading("board a 1 0;board b 0 0;");
        due("no such board", x.tell(2, 0), -1);
        due("no such board below", x.tell(-1, 0), -1);
        due("no such minute", x.tell(0, 501), -1);
        due("no such minute below", x.tell(0, -1), -1);
        due("told 0", x.tell(0, 0), 0);
        due("told 1", x.tell(1, 500), 1);
        due("told 2", x.tell(0, 3), 2);
        due("told 3", x.tell(0, 3), 3);
        due("told 4", x.tell(0, 3), -1);
        due("told", x.count(12), 4);
        due("nothing is undone of it", x.count(11), 0);
        due("forget", x.forget(), 4);
        due("forget nothing", x.forget(), 0);
        due("told then", x.count(12), 0);
        due("from 0 on", x.tell(1, 2), 0);
    }

    /** Promise 28. */
    private static void fitting() {
        OneClock x = Tapes.reading("board a 2 0;board b 1 0;step 2;thinks 3 1 0;clock 20;answer a=5;");
        due("none known", x.fits(0), 1);
        due("not so many", x.fits(1), -1);
        due("below", x.fits(-1), -1);
        x.tell(0, 3);
        // 3 at once, 1 from 2 on, 0 at 3
        due("one known", x.fits(1), 3);
        x.tell(1, 6);
        // from 3 on there at 5: by 3 no, by 1 from 5 on, by 0 at 6
        due("two known", x.fits(2), 6);
        due("the first alone", x.fits(1), 3);
        x.tell(0, 9);
        // a is ready at 8 again, and he is there at 8: by 1 and by 0
        due("three known", x.fits(3), 12);
        x.tell(0, 15);
        due("not open any more", x.fits(4), 0);
        x.forget();
        x.move(0, 0);
        x.tell(0, 2);
        due("from minute 0 on", x.fits(1), 2);
        x.forget();
        x.tell(0, 20);
        // waiting till CLOCK for 0 minutes is none: 3 from 17 on, 1 from 19 on
        due("not till CLOCK", x.fits(1), 2);
        x.tell(1, 20);
        due("over ahead of it", x.fits(2), 0);
        x.forget();
        x.tell(0, 21);
        due("behind CLOCK", x.fits(1), 0);
        OneClock walk = Tapes.reading("board a 1 0;board b 1 0;step 5;thinks 0;clock 5;");
        walk.tell(1, 5);
        due("walking till CLOCK", walk.fits(1), 1);
        OneClock ready = Tapes.reading("board a 2 0;thinks 0 1;clock 5;answer a=if time<1 then 5 else 4;");
        ready.tell(0, 0);
        ready.tell(0, 5);
        due("waiting till it is ready at CLOCK", ready.fits(2), 1);
        OneClock idle = Tapes.reading("board a 2 0;thinks 1 2;clock 50;answer a=idle*3;");
        idle.tell(0, 4);
        idle.tell(0, 12);
        // idle 3 by 1: ready at 13: none; idle 2 by 2: ready at 10: by 1 (11) and 2 (10)
        due("idle is longer then", idle.fits(2), 2);
        OneClock sums = Tapes.reading("board a 2 0;thinks 1 2;clock 50;worth a=think;answer a=sum+think;");
        sums.tell(0, 2);
        sums.tell(0, 5);
        // by 1: ready at 3: 2 rows; by 2: ready at 4: by 1 alone
        due("what is won is known", sums.fits(2), 3);
        OneClock rows = Tapes.reading("board a 4 0;thinks 0 0 0 0;answer a=0;");
        for (int n = 0; n < 4; n++) {
            rows.tell(0, 9);
        }
        due("rows of all of THINKS", rows.fits(4), 256);
        due("no such k", rows.fits(5), -1);
    }

    /** Promises 29 and 30. */
    private static void holding() {
        OneClock x = Tapes.reading("board a 4 3;board b 2 5;step 1;thinks 2 9;clock 20;draw b=6;flag 8;answer a=4;");
        due("no such slot", x.hold(3), false);
        due("no such slot below", x.hold(-1), false);
        due("no such slot to restore", x.restore(3), false);
        due("no such slot below to restore", x.restore(-1), false);
        due("nothing is held", x.restore(0), false);
        x.move(0, 0);
        x.offer(1);
        due("hold", x.hold(2), true);
        due("held", x.count(13), 1);
        due("undoable still", x.count(11), 2);
        x.drop(0);
        due("nothing held there", x.restore(0), false);
        due("nothing happens by it", x.count(11), 3);
        due("restore", x.restore(2), true);
        due("minute", x.count(1), 3);
        due("where he is", x.count(2), 1);
        due("won", x.sum(), 7);
        due("left", x.board(0, 0), 3);
        due("ready", x.board(0, 1), 6);
        due("open again", x.board(0, 3), 1);
        due("ended by a draw", x.board(1, 5), 1);
        due("nothing can be undone", x.undo(), false);
        x.move(0, 0);
        x.move(0, 1);
        due("the flag", x.count(9), 1);
        due("hold it", x.hold(0), true);
        due("two", x.count(13), 2);
        due("it stays there", x.restore(2), true);
        due("no flag", x.count(9) * 10 + x.count(8), 0);
        due("won again", x.sum(), 7);
        due("the fallen one", x.restore(0), true);
        due("the flag again", x.count(9) * 10 + x.count(8), 11);
        due("lost again", x.sum(), 0);
        due("hold another one there", x.hold(2), true);
        due("two still", x.count(13), 2);
        x.hold(1);
        due("three", x.count(13), 3);
        x.restore(2);
        due("the other one", x.sum(), 0);
    }

    /** Promise 31. */
    private static void counts() {
        OneClock x = Tapes.reading("board a 2 3;board b 1 5;board c 0 0;step 4;thinks 2 9 3;clock 21;flag 8;");
        x.move(1, 0);
        x.tell(0, 1);
        x.hold(0);
        x.feed(0, 0, 0, 0, 0);
        int[] want = {3, 6, 1, 21, 4, 8, 3, 1, 0, 0, 20, 1, 1, 1};
        for (int what = 0; what < want.length; what++) {
            due("count " + what, x.count(what), want[what]);
        }
        due("count -1", x.count(-1), -1);
        due("count 14", x.count(14), -1);
        due("count least", x.count(Integer.MIN_VALUE), -1);
        due("none open: over", Tapes.reading("board a 0 0;").count(8), 1);
        due("he stands all the same", Tapes.reading("board a 0 0;").count(2), 0);
    }
}
