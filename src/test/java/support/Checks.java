import java.io.IOException;
import java.nio.file.Files;
import java.nio.file.Path;

/** What tests of hand-made answers have in common: they look at answers and tell the wrong ones. */
abstract class Checks {
    static final int BAD = -1000000;
    static final int MOST = Integer.MAX_VALUE;
    static final int LEAST = Integer.MIN_VALUE;

    private static String document = "";
    private static String sentence = "";
    private static int answers = 0;
    private static int wrong = 0;

    /** What is looked at from now on; it must stand in the document just so. */
    static void says(String words) {
        if (document.isEmpty()) {
            document = readDocument();
        }
        sentence = words;
        if (!document.contains(words)) {
            wrong("it is not in the document");
        }
    }

    private static String readDocument() {
        try {
            return Files.readString(Path.of("../shared/DOC.md")).replaceAll("\\s+", " ");
        } catch (IOException none) {
            return "?";
        }
    }

    private static void wrong(String what) {
        wrong++;
        System.out.println((sentence.isEmpty() ? "" : "'" + sentence + "': ") + what);
    }

    static void due(String call, int got, int want) {
        answers++;
        if (got != want) {
            wrong(call + " answered " + got + ", due is " + want);
        }
    }

    static void due(String call, boolean got, boolean want) {
        due(call, got ? 1 : 0, want ? 1 : 0);
    }

    /** Reads a text on a new object and looks at the fault and its place. */
    static void fault(String text, int number, int place) {
        OneClock x = new OneClock();
        Tapes.feed(x, text);
        String end = text.length() > 90 ? ".." + text.substring(text.length() - 90) : text;
        due("read of '" + end + "'", x.read(), number);
        due("place of '" + end + "'", x.place(), place);
        due("tape behind '" + end + "'", x.count(10), 0);
    }

    static void right(String text) {
        fault(text, 0, OneClock.NONE);
    }

    /** What a law of one board is worth at its first move, for which he thinks 3 minutes. */
    static int worth(String law) {
        OneClock x = Tapes.reading("board a 5 0;worth a=" + law + ";thinks 3;");
        due("move by " + law, x.move(0, 0), 0);
        return x.sum();
    }

    static String times(int n, String text) {
        return text.repeat(n);
    }

    /** All that an object tells of how it stands, but for the tape and the latest fault. */
    static String standing(OneClock x) {
        StringBuilder all = new StringBuilder();
        for (int what = 0; what <= 13; what++) {
            all.append(what == 10 ? 0 : x.count(what)).append(' ');
        }
        for (int b = 0; b < 6; b++) {
            for (int what = 0; what <= 5; what++) {
                all.append(x.board(b, what)).append(' ');
            }
        }
        return all.append(x.sum()).toString();
    }

    static void stands(String when, OneClock x, String want) {
        answers++;
        String got = standing(x);
        if (!got.equals(want)) {
            wrong(when + " it stands\n  " + got + ", due is\n  " + want);
        }
    }

    /** To be called at the end: tells how it went, and ends with code 1 if something is wrong. */
    static void tellAll() {
        System.out.println(answers + " answers looked at, " + wrong + " wrong");
        if (wrong != 0) {
            System.exit(1);
        }
    }
}
