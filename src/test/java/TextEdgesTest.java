import java.util.Arrays;
import java.util.List;

/** The edges that section I and promises 1 to 5 name: the tape, texts and their faults. */
public final class TextEdgesTest extends Checks {
    private static final List<String> WORDS = Arrays.asList("board", "worth", "answer", "draw", "thinks", "step",
        "clock", "flag", "if", "then", "else", "think", "move", "time", "idle", "left", "sum");
    private static final String A = "board a 1 1;";
    private static final String SIX =
        "board a 1 1;board b 1 1;board c 1 1;board d 1 1;board e 1 1;board f 1 1;";

    public static void main(String[] args) {
        newObject();
        fullTape();
        bytesOfInts();
        backTooFar();
        readEmptiesTheTape();
        placeOfTheLatest();
        longestText();
        blanks();
        longestTokens();
        names();
        ints();
        signs();
        emptyParts();
        eachPrefix();
        eachTokenWrong();
        onePlace();
        tooManyTokens();
        tooManyBoards();
        tooManyThinks();
        tooManyIfs();
        tooDeep();
        formAheadOfMeaning();
        toldTwice();
        notToldAhead();
        numbersOfBoards();
        numbersOfOthers();
        firstByPlace();
        theLastOneTold();
        ofFaultsNothingChanges();
        inPlaceOfTheOneAhead();
        readManyTimes();
        tellAll();
    }

    private static void newObject() {
        says("Nothing is told.");
        OneClock x = new OneClock();
        due("place", x.place(), OneClock.NONE);
        OneClock y = new OneClock();
        due("read of an empty tape", y.read(), 0);
        stands("as by the empty text", x, standing(y));
    }

    // ---------------------------------------------------------------- the tape

    private static int feedBlanks(OneClock x) {
        return x.feed(0x20202020, 0x20202020, 0x20202020, 0x20202020, 0x20202020);
    }

    private static void fullTape() {
        says("NONE, and nothing comes, if it would have more than 2,000.");
        OneClock x = new OneClock();
        Tapes.feed(x, "step 7;" + times(1973, " "));
        due("tape", x.count(10), 1980);
        due("back to 1979", x.back(1), 1979);
        due("feed to 1999", x.feed(0x20202020, 0x20202020, 0x20202020, 0x20202020, 0x2020203F), 1999);
        due("back to 1998", x.back(1), 1998);
        for (int tape = 1998; tape > 1980; tape--) {
            due("feed to " + (tape + 20), x.feed(0x3F3F3F3F, 0, 0, 0, 0), OneClock.NONE);
            due("tape stays", x.count(10), tape);
            due("back 1", x.back(1), tape - 1);
        }
        due("feed to 2000", feedBlanks(x), 2000);
        due("feed to 2020", x.feed(0x3F3F3F3F, 0, 0, 0, 0), OneClock.NONE);
        due("nothing came", x.read(), 0);
        due("step", x.count(4), 7);
        due("there is room again", feedBlanks(x), 20);
    }

    private static void bytesOfInts() {
        says("Twenty bytes, the highest of a first, come behind the tape: how many it has.");
        OneClock x = new OneClock();
        // "flag " "321;s" "tep 8" ";cloc" and all the rest of it, four bytes to an int
        due("feed 1", x.feed(0x666C6167, 0x20333231, 0x3B737465, 0x7020383B, 0x636C6F63), 20);
        due("feed 2", x.feed(0x6B203435, 0x363B7468, 0x696E6B73, 0x20312032, 0x20333B20), 40);
        due("read", x.read(), 0);
        int[] want = {456, 8, 321, 3};
        for (int what = 3; what <= 6; what++) {
            due("count " + what, x.count(what), want[what - 3]);
        }
        // of an int below 0 the highest byte is 128 or more; it is a byte like others
        due("feed below 0", x.feed(0x20202020, -1, LEAST, MOST, 0), 20);
        due("read of it", x.read(), 1);
        due("its place", x.place(), 4);
    }

    private static void backTooFar() {
        says("NONE, and nothing goes, if it has not so many, or n is below 0.");
        OneClock x = new OneClock();
        due("back 0 of 0", x.back(0), 0);
        due("back 1 of 0", x.back(1), OneClock.NONE);
        Tapes.feed(x, "step 7;");
        for (int n : new int[] {8, 9, 2000, 2001, MOST, -1, -7, LEAST}) {
            due("back " + n, x.back(n), OneClock.NONE);
            due("nothing goes by " + n, x.count(10), 7);
        }
        due("back 0", x.back(0), 7);
        due("read", x.read(), 0);
        due("step", x.count(4), 7);
        Tapes.feed(x, "step 7;");
        due("back all", x.back(7), 0);
        due("back 1 then", x.back(1), OneClock.NONE);
    }

    private static void readEmptiesTheTape() {
        says("The tape, which is empty then, is read: 0, or the number of its FAULT.");
        String[] texts = {"step 7;", "?", "thinks 1 2 3 4 5;", A + A, "draw a=1;", "step 10;"};
        for (int number = 0; number < texts.length; number++) {
            OneClock x = new OneClock();
            Tapes.feed(x, texts[number]);
            due("read of " + texts[number], x.read(), number);
            due("tape then", x.count(10), 0);
            due("read of nothing", x.read(), 0);
            due("place of nothing", x.place(), OneClock.NONE);
        }
    }

    private static void placeOfTheLatest() {
        says("The byte of the latest read()'s FAULT; NONE without.");
        OneClock x = new OneClock();
        due("ahead of all", x.place(), OneClock.NONE);
        String[] texts = {"step 10;", " ?", "step 1;", "", "flag 5; flag", "board a 1 1;draw b=1;"};
        int[] places = {5, 1, -1, -1, 12, 17};
        for (int k = 0; k < texts.length; k++) {
            Tapes.feed(x, texts[k]);
            x.read();
            due("place of " + texts[k], x.place(), places[k]);
            feedBlanks(x);
            x.back(20);
            due("place stays " + texts[k], x.place(), places[k]);
        }
    }

    private static void longestText() {
        says("A TEXT has 2,000 bytes at most.");
        OneClock x = new OneClock();
        Tapes.feed(x, times(1993, " ") + "step 7;");
        due("tape", x.count(10), 2000);
        due("read to its last byte", x.read(), 0);
        due("step", x.count(4), 7);
        fault(times(1999, " ") + "?", 1, 1999);
        fault(times(1996, "\n") + "step", 1, 2000);
        fault(times(1994, "\t") + "flag 1", 1, 2000);
        fault(times(1991, "\r") + "flag 1000", 1, 2000);
        fault(times(1990, " ") + "flag 1000;", 5, 1995);
    }

    // ---------------------------------------------------------------- tokens

    private static boolean isBlank(int c) {
        return c == 9 || c == 10 || c == 13 || c == 32;
    }

    private static boolean isDigit(int c) {
        return c >= '0' && c <= '9';
    }

    private static boolean isLetter(int c) {
        return c >= 'a' && c <= 'z';
    }

    private static void blanks() {
        says("with blanks (9, 10, 13, 32) between or not");
        for (int c = 0; c < 256; c++) {
            String text = "flag" + (char) c + "5;";
            if (isBlank(c) || isDigit(c)) {
                right(text);
            } else {
                fault(text, 1, isLetter(c) ? 0 : 4);
            }
            text = "flag 5;" + (char) c;
            fault(text, isBlank(c) ? 0 : 1, isBlank(c) ? -1 : 7);
            text = (char) c + "flag 5;";
            fault(text, isBlank(c) ? 0 : 1, isBlank(c) ? -1 : 0);
        }
        right("\t\n\r flag\r\n\t 5 \n;\t\r");
        right("board a 1 1;worth a=if think<1then(2)else 3;");
        right("board a 1 1 ; worth a = if think < 1 then ( 2 ) else 3 ;");
        right("board a1 1;");
    }

    private static void longestTokens() {
        says("TOKENS, the longest that can be");
        fault("boarda 1 1;", 1, 0);
        fault("board a 11;", 1, 10);
        fault("flag 5 5;", 1, 7);
        fault("flag 55 55;", 1, 8);
        fault(A + "worth a=ifthink<1 then 1 else 1;", 1, 20);
        fault(A + "worth a=if 1<2 then 1 else1;", 0, -1);
        fault(A + "worth a=if 1<2 then 1 elsethink;", 1, 34);
        due("one of two digits", Tapes.reading("thinks 12;").count(6), 1);
        due("two of one digit", Tapes.reading("thinks 1 2;").count(6), 2);
        due("thinks, not think", Tapes.reading("thinks4;").count(6), 1);
        due("four digits", Tapes.reading("flag 0321;").count(5), 321);
    }

    private static void names() {
        says("NAMES (letters a .. z, 8 at most, none of the words in quotes)");
        for (String name : List.of("a", "z", "az", "abcdefgh", "zzzzzzzz", "boards", "thin", "i", "iff", "su", "sums")) {
            right("board " + name + " 1 1;draw " + name + "=1;");
        }
        for (String name : List.of("abcdefghi", "aaaaaaaaa", "boardboard", times(40, "z"), "A", "aB", "{", "`", "a_", "")) {
            OneClock x = new OneClock();
            Tapes.feed(x, "board " + name + " 1 1;");
            due("read of the name " + name, x.read(), 1);
        }
        fault("board abcdefghi 1 1;", 1, 6);
        fault("board a` 1 1;", 1, 7);
        fault("board z{ 1 1;", 1, 7);
        for (String word : WORDS) {
            fault("board " + word + " 1 1;", 1, 6);
            right("board " + word + "x 1 1;answer " + word + "x=1;");
            right("board x" + word + " 1 1;");
            right("board z" + word.substring(1) + " 1 1;");
            right("board " + word.substring(0, word.length() - 1) + "z 1 1;");
            String less = word.substring(0, word.length() - 1);
            fault("board " + less + " 1 1;", WORDS.contains(less) ? 1 : 0, WORDS.contains(less) ? 6 : -1);
        }
        right("board abcdefgh 1 1;board abcdefgi 1 1;board bbcdefgh 1 1;board abcdefg 1 1;");
    }

    private static void ints() {
        says("INTS (1 to 4 digits)");
        for (String digits : List.of("0", "9", "09", "000", "999", "0000", "0999")) {
            right("flag " + digits + ";");
        }
        for (String digits : List.of("00000", "00999", "12345", "99999", "4294967297", times(60, "0"))) {
            fault("flag " + digits + ";", 1, 5);
            fault(A + "worth a=" + digits + ";", 1, 20);
        }
        right(A + "worth a=9999-0000;");
    }

    private static void signs() {
        says("SIGNS ; = + - * / < ( ) . A longer one, all else, is no TOKEN.");
        int[] worths = {6, 2, 8, 2};
        for (int c = 0; c < 256; c++) {
            String text = "board a 1 1;worth a=4" + (char) c + "2;";
            int sign = "+-*/".indexOf(c);
            if (sign >= 0 || isDigit(c)) {
                OneClock x = Tapes.reading(text);
                due("move by " + text, x.move(0, 0), 0);
                due("worth by " + text, x.sum(), sign >= 0 ? worths[sign] : 402 + 10 * (c - '0'));
            } else {
                fault(text, 1, isBlank(c) ? 22 : c == ';' ? 22 : 21);
            }
        }
        for (String sign : List.of(">", ".", ",", ":", "!", "\"", "%", "&", "_", "[", "\u00e9", "\u0000")) {
            fault("flag 5" + sign, 1, 6);
            fault(sign, 1, 0);
        }
    }

    // ---------------------------------------------------------------- forms

    private static void emptyParts() {
        says("text: {TELL}.");
        right("");
        right("\r\n");
        says("'thinks' {INT} ';'");
        right("thinks;");
        fault("thinks", 1, 6);
        says("LAW: '=' {'if' E '<' E 'then' E 'else'} E.");
        fault(A + "worth a=;", 1, 20);
        fault(A + "worth a;", 1, 19);
        fault(A + "worth a=if 1<2 then 1 else;", 1, 38);
        fault(A + "worth a=if <2 then 1 else 1;", 1, 23);
        fault(A + "worth a=if 1< then 1 else 1;", 1, 26);
        fault(A + "worth a=if 1<2 then else 1;", 1, 32);
        fault(A + "worth a=(if 1<2 then 1 else 1);", 1, 21);
        fault(A + "worth a=if 1<2 then if 1<2 then 1 else 1 else 1;", 1, 32);
        says("UNIT: INT | VAR | '(' E ')'.");
        fault(A + "worth a=();", 1, 21);
        fault(A + "worth a=-1;", 1, 20);
        fault(A + "worth a=1--1;", 1, 22);
    }

    /** A text with all forms there are, token by token. */
    private static String[] allForms() {
        return ("board a 1 1 ; worth a = if think < move then time else if ( idle ) < left + 1 then sum - 2 else 3 * 4 / 5 ; "
            + "answer a = ( ( 1 + 2 ) * 3 ) ; draw a = 7 ; thinks 1 2 3 4 ; step 1 ; clock 2 ; flag 3 ; thinks ;").split(" ");
    }

    private static void eachPrefix() {
        says("the first by its place (a byte; the text's end: its length)");
        StringBuilder text = new StringBuilder();
        for (String token : allForms()) {
            text.append(token);
            boolean ends = token.equals(";");
            fault(text.toString(), ends ? 0 : 1, ends ? -1 : text.length());
            text.append(' ');
            fault(text.toString(), ends ? 0 : 1, ends ? -1 : text.length());
        }
    }

    private static void eachTokenWrong() {
        says("1 SYNTAX: a TOKEN, or what is none, with which no text goes on.");
        String[] tokens = allForms();
        int place = 0;
        for (int k = 0; k < tokens.length; k++) {
            for (String wrong : List.of("?", "12345", "toolongname", tokens[k].equals("=") ? "board" : "=")) {
                String[] changed = tokens.clone();
                changed[k] = wrong;
                fault(String.join(" ", changed), 1, place);
            }
            place += tokens[k].length() + 1;
        }
    }

    private static void onePlace() {
        says("of one place the least");
        fault(tokens(400) + "?", 1, tokens(400).length());
        fault(tokens(400) + "12345", 1, tokens(400).length());
        fault(tokens(400) + "a", 1, tokens(400).length());
        fault("thinks 1 2 3 4 12345;", 1, 15);
        fault("thinks 1 2 3 4 a;", 1, 15);
        fault(SIX + "boardg 1 1;", 1, 72);
    }

    /** A text of just so many tokens, 2 or more. */
    private static String tokens(int n) {
        String thinks = n % 3 == 0 ? "" : n % 3 == 1 ? "thinks 1 2;" : "thinks;";
        int ofThinks = n % 3 == 0 ? 0 : n % 3 == 1 ? 4 : 2;
        return times((n - ofThinks) / 3, "step 1;") + thinks;
    }

    private static void tooManyTokens() {
        says("2 ROOM: a 401st TOKEN");
        right(tokens(399));
        right(tokens(400));
        right(tokens(400) + "  ");
        fault(tokens(401), 2, tokens(401).length() - 1);
        fault(tokens(402), 2, tokens(402).length() - 2);
        fault(tokens(403), 2, tokens(403).length() - 4);
        for (String next : List.of("board", "worth", "answer", "draw", "thinks", "step", "clock", "flag")) {
            fault(tokens(400) + next, 2, tokens(400).length());
            fault(tokens(399) + " " + next, 1, tokens(399).length() + 1 + next.length());
        }
        fault(tokens(399) + "board a", 2, tokens(399).length() + 6);
        fault(tokens(398) + "board a 1", 2, tokens(398).length() + 8);
        fault(tokens(398) + "board a ", 1, tokens(398).length() + 8);
        String law = tokens(392) + A + "worth a=";
        fault(law + "1", 2, law.length());
        fault(law + "(", 2, law.length());
        fault(law + "if", 2, law.length());
        fault(law + "think", 2, law.length());
        fault(law, 1, law.length());
        fault(tokens(390) + A + "worth a=1+2", 2, tokens(390).length() + 22);
        fault(tokens(391) + A + "worth a=1*2", 2, tokens(391).length() + 21);
        fault(tokens(391) + A + "worth a=1;", 2, tokens(391).length() + 21);
        right(tokens(390) + A + "worth a=1;");
        // one law that is as long as it can be
        right(A + "worth a=1" + times(195, "+1") + ";");
        fault(A + "worth a=1" + times(196, "+1") + ";", 2, 21 + 391);
    }

    private static void tooManyBoards() {
        says("a 7th board (at its first TOKEN)");
        right(SIX);
        fault(SIX + "board g 1 1;", 2, 72);
        fault(SIX + " board", 2, 73);
        fault(SIX + "step 1;board a 99 9999 ?", 2, 79);
        fault(SIX + "step 1; 1 board", 1, 80);
        right(SIX + "worth f=1;answer f=1;draw f=1;step 1;");
        says("BOARDS, 6 at most");
        due("six boards", Tapes.reading(SIX).count(0), 6);
    }

    private static void tooManyThinks() {
        says("a 5th number of THINKS (at it)");
        right("thinks 1 2 3 4;");
        fault("thinks 1 2 3 4 5", 2, 15);
        fault("thinks 1 2 3 4 5 6;", 2, 15);
        fault("thinks 61 2 3 4 0;", 2, 16);
        fault("thinks 1;thinks 1 2 3 4 60;", 2, 24);
        right("thinks 1 2 3;thinks 1 2 3 4;thinks 1 2;");
    }

    private static void tooManyIfs() {
        says("a 5th if of a LAW (at it)");
        String head = A + "worth a=";
        String one = "if 1<2 then 3 else ";
        right(head + times(4, one) + "1;");
        fault(head + times(5, one) + "1;", 2, 20 + 4 * 19);
        fault(head + times(4, one) + "if", 2, 20 + 4 * 19);
        fault(head + times(4, one) + "then", 1, 20 + 4 * 19);
        right(head + times(4, one) + "1;answer a=" + times(4, one) + "1;worth a=" + times(4, one) + "2;");
        String two = head + times(4, one) + "1;answer a=" + times(4, one);
        fault(two + one + "1;", 2, two.length());
    }

    private static void tooDeep() {
        says("a 7th ( within one another (at it)");
        String head = A + "worth a=";
        String six = "((((((1))))))";
        String seven = "(((((((1)))))))";
        String[] places = {"%;", "1+%;", "%*2;", "if %<1 then 1 else 1;", "if 1<% then 1 else 1;",
            "if 1<2 then % else 1;", "if 1<2 then 1 else %;", "if 1<2 then 3 else if 2-%<1 then 1 else 1;"};
        for (String place : places) {
            right(head + place.replace("%", six));
            right(head + place.replace("%", six + "-" + six));
            fault(head + place.replace("%", seven), 2, 20 + place.indexOf('%') + 6);
            fault(head + place.replace("%", six + "/" + seven), 2, 20 + place.indexOf('%') + 20);
        }
        right(head + "(1)+(1)+(1)+(1)+(1)+(1)+(1)+(1);");
        right(head + "(((1)+(1))*((1)-(1)))+(((((1)))));");
        right(head + "((((((1)+(1))))));");
        fault(head + "((((((1+(1)))))));", 2, 20 + 8);
        fault(head + "(((((((", 2, 26);
        fault(head + "((((((", 1, 26);
        fault(head + "(((((()", 1, 26);
        fault(head + "((((((1)))))));", 1, 33);
    }

    // ---------------------------------------------------------------- meaning

    private static void formAheadOfMeaning() {
        says("If there is none, likewise:");
        String[] slips = {A + A, "worth a=1;", "board a 10 1;", "clock 0;"};
        for (String slip : slips) {
            fault(slip + "?", 1, slip.length());
            fault(slip + "thinks 1 2 3 4 5;", 2, slip.length() + 15);
            fault(slip + "step", 1, slip.length() + 4);
            fault("?" + slip, 1, 0);
        }
    }

    private static void toldTwice() {
        says("3 TWICE: a NAME told already.");
        String five = SIX.substring(0, 60);
        for (char name = 'a'; name <= 'e'; name++) {
            fault(five + "board " + name + " 1 1;", 3, 66);
            fault(five + "board " + name + " 10 1000;", 3, 66);
        }
        right(five + "board aa 1 1;");
        fault(A + A + A, 3, 18);
        fault("board ab 1 1;board abc 1 1;board ab 1 1;", 3, 33);
        // a board that was wrongly told was told
        fault("board a 10 1;" + A, 5, 8);
        right("board abcdefgh 1 1;board abcdefgi 1 1;");
        fault("board abcdefgh 1 1;board abcdefgh 1 1;", 3, 25);
    }

    private static void notToldAhead() {
        says("4 NAME: no such BOARD told ahead.");
        for (String law : List.of("worth", "answer", "draw")) {
            fault(law + " a=1;", 4, law.length() + 1);
            fault(law + " a=1;" + A, 4, law.length() + 1);
            fault(A + law + " b=1;", 4, 12 + law.length() + 1);
            fault(A + law + " aa=1;", 4, 12 + law.length() + 1);
            fault(SIX + law + " g=1;", 4, 72 + law.length() + 1);
            right(A + law + " a=1;");
            right(SIX + law + " a=1;" + law + " f=1;");
        }
    }

    private static void numbersOfBoards() {
        says("MOVES 0 .. 9, LOST 0 .. 999");
        for (int n : new int[] {0, 1, 8, 9, 10, 11, 99, 999, 1000, 9999}) {
            fault("board a " + n + " 5;", n <= 9 ? 0 : 5, n <= 9 ? -1 : 8);
            fault("board a 5 " + n + ";", n <= 999 ? 0 : 5, n <= 999 ? -1 : 10);
        }
        OneClock x = Tapes.reading("board a 0 0;board b 9 999;board c 1 0;");
        due("none left", x.board(0, 0), 0);
        due("nine left", x.board(1, 0), 9);
        due("let go", x.drop(1), true);
        due("what it costs", x.sum(), -999);
        due("let go for nothing", x.drop(2), true);
        due("what it costs then", x.sum(), -999);
    }

    private static void numbersOfOthers() {
        says("THINKS: 1 to 4 numbers of minutes 0 .. 60");
        String[] rows = {"%", "1 %", "1 2 %", "1 2 3 %", "% 1 2 3"};
        for (String row : rows) {
            for (int n : new int[] {0, 59, 60, 61, 100, 9999}) {
                String text = "thinks " + row.replace("%", "" + n) + ";";
                fault(text, n <= 60 ? 0 : 5, n <= 60 ? -1 : 7 + row.indexOf('%'));
            }
        }
        says("STEP: minutes from a seat to the next one, 0 .. 9 (1).");
        number("step ", 4, 0, 9, 1);
        says("CLOCK: 1 .. 500 minutes (120).");
        number("clock ", 3, 1, 500, 120);
        says("FLAG: 0 .. 999 (0).");
        number("flag ", 5, 0, 999, 0);
        says("5 WRONG (at the INT): a number not as told above.");
        right(A + "worth a=9999;answer a=9999;draw a=9999;");
    }

    private static void number(String word, int what, int least, int most, int untold) {
        due(word + "untold", Tapes.reading("").count(what), untold);
        for (int n : new int[] {0, 1, 2, least, least + 1, most - 1, most, most + 1, 1000, 9999}) {
            boolean holds = n >= least && n <= most;
            fault(word + n + ";", holds ? 0 : 5, holds ? -1 : word.length());
            due(word + n, Tapes.reading(word + n + ";").count(what), holds ? n : untold);
            if (!holds) {
                // it is wrong though another one is told behind it
                fault(word + n + ";" + word + "1;", 5, word.length());
            }
        }
    }

    private static void firstByPlace() {
        says("FAULTS of a text, the first by its place");
        String[] slips = {A + A, "worth b=1;", "board c 10 1;", "clock 0;"};
        int[] numbers = {3, 4, 5, 5};
        int[] places = {18, 6, 8, 6};
        for (int one = 0; one < slips.length; one++) {
            for (int other = 0; other < slips.length; other++) {
                if (one != other) {
                    fault(slips[one] + slips[other], numbers[one], places[one]);
                }
            }
        }
        fault("board a 10 1000;", 5, 8);
        fault("board a 9 1000;", 5, 10);
        fault(A + "board a 10 1;", 3, 18);
        fault("thinks 61 62;", 5, 7);
        fault("step 1;? thinks 1 2 3 4 5;", 1, 7);
        fault("thinks 1 2 3 4 5;?", 2, 15);
    }

    // ---------------------------------------------------------------- what a text does

    private static void theLastOneTold() {
        says("a LAW for a BOARD (the last one told; none: 1, 1, 0)");
        OneClock x = Tapes.reading("board a 3 0;board b 2 0;worth a=5;worth a=6;answer a=7;answer a=8;draw a=9;draw a=3;");
        x.move(0, 0);
        due("worth", x.sum(), 6);
        due("ready", x.board(0, 1), 9);
        due("draw", x.offer(0), 1);
        due("by draw", x.sum(), 9);
        due("no draw", x.offer(1), 0);
        due("move", x.move(1, 0), 0);
        due("worth 1", x.sum(), 10);
        due("ready 1 later", x.board(1, 1), x.count(1) + 1);
        says("of several rows the last one told; not told, or none: one, 1");
        due("not told", thinksOf(""), 11);
        due("none", thinksOf("thinks;"), 11);
        due("none behind some", thinksOf("thinks 4 5;thinks;"), 11);
        due("some behind none", thinksOf("thinks;thinks 4 5;"), 24);
        due("fewer behind more", thinksOf("thinks 4 5 6 7;thinks 8;"), 18);
        due("0 minutes", thinksOf("thinks 0;"), 10);
        says("Of several the last one.");
        x = Tapes.reading("step 9;clock 500;flag 999;step 0;clock 1;flag 0;");
        due("the last ones", x.count(4) * 100 + x.count(3) * 10 + x.count(5), 10);
    }

    /** Ten times how many numbers THINKS has, and the first of them. */
    private static int thinksOf(String text) {
        OneClock x = Tapes.reading(text + "board a 1 0;worth a=think;");
        x.move(0, 0);
        return 10 * x.count(6) + x.sum();
    }

    /** An object of which all that can be is otherwise than as by its text. */
    private static OneClock inUse() {
        OneClock x = Tapes.reading("board a 3 4;board b 2 1;board c 1 3;step 3;clock 90;thinks 2 4;flag 6;"
            + "worth a=5;answer a=9;draw c=8;");
        x.tell(1, 7);
        x.tell(0, 12);
        x.hold(0);
        x.move(0, 0);
        x.hold(1);
        x.move(1, 1);
        x.hold(2);
        x.offer(2);
        x.drop(1);
        return x;
    }

    private static void ofFaultsNothingChanges() {
        says("A text with a FAULT changes nothing but the tape");
        String other = "board z 9 9;board y 9 9;worth z=99;step 7;clock 7;flag 7;thinks 7 7 7;";
        String[] ends = {"step", "board x 1 1;board w 1 1;board v 1 1;board u 1 1;board t", "board z 1 1;", "draw q=1;", "flag 1000;"};
        for (int k = 0; k < ends.length; k++) {
            OneClock x = inUse();
            String ahead = standing(x);
            int best = x.best(2);
            int seats = x.seats(0, 0);
            Tapes.feed(x, other + ends[k]);
            due("read of fault " + (k + 1), x.read(), k + 1);
            due("tape behind fault " + (k + 1), x.count(10), 0);
            stands("behind fault " + (k + 1), x, ahead);
            due("best behind it", x.best(2), best);
            due("seats behind it", x.seats(0, 0), seats);
            due("fits behind it", x.fits(2), inUse().fits(2));
            due("undo behind it", x.undo(), true);
            due("undo once more", x.undo(), true);
            due("board a by its laws", x.move(0, 0), 0);
            due("restore behind it", x.restore(1), true);
            due("sum by it", x.sum(), 5);
        }
    }

    private static void inPlaceOfTheOneAhead() {
        says("else it is in place of the one ahead: minute 0, he stands at BOARD 0's seat, all BOARDS are READY from minute 0 on, "
            + "nothing is won, nothing can be undone, nothing is TOLD, SLOTS hold nothing.");
        String[] texts = {"", "board q 2 5;board r 3 0;board s 1 1;", "thinks 9;board q 1 0;worth q=7;"
            + "board r 2 0;answer r=5;clock 60;step 2;flag 3;"};
        for (String text : texts) {
            OneClock x = inUse();
            x.best(3);
            x.agreed(0, 1, 0, 0, 0);
            x.haste(0, 0, 0);
            x.seats(1, 0);
            Tapes.feed(x, text);
            due("read", x.read(), 0);
            OneClock fresh = Tapes.reading(text);
            stands("by '" + text + "'", x, standing(fresh));
            due("undo", x.undo(), false);
            for (int slot = 0; slot <= 2; slot++) {
                due("restore " + slot, x.restore(slot), false);
            }
            due("fits 1", x.fits(1), OneClock.NONE);
            due("best", x.best(3), fresh.best(3));
            due("its first", x.bestAt(3, 0), fresh.bestAt(3, 0));
            due("seats", x.seats(1, 0), fresh.seats(1, 0));
            due("shared", x.shared(1, 0, 0), fresh.shared(1, 0, 0));
            due("rule", x.rule(1, 0, 0), fresh.rule(1, 0, 0));
            due("move", x.move(1, 0), fresh.move(1, 0));
            due("offer", x.offer(2), fresh.offer(2));
            stands("moved by '" + text + "'", x, standing(fresh));
        }
    }

    private static void readManyTimes() {
        says("else it is in place of the one ahead");
        OneClock x = new OneClock();
        String law = "1" + times(180, "+1");
        for (int n = 0; n < 9; n++) {
            Tapes.feed(x, "board a 2 0;worth a=" + law + ";answer a=" + n + ";");
            due("read " + n, x.read(), 0);
            due("move " + n, x.move(0, 0), 0);
            due("worth " + n, x.sum(), 181);
            due("ready " + n, x.board(0, 1), 1 + n);
            Tapes.feed(x, "board a 2 0;worth a=" + law + ";answer b=" + n + ";");
            due("fault " + n, x.read(), 4);
        }
    }
}
