import java.nio.charset.StandardCharsets;
import java.util.NoSuchElementException;

/** What the tests share: answers against those due, and texts put on a tape. */
final class Due {
    private int wrong = 0;
    private String sentence = "";

    /** The sentence of the document that the answers from here on are due by. */
    void by(String words) {
        sentence = words + " | ";
    }

    void same(String call, long got, long want) {
        if (got != want) {
            wrong++;
            System.out.println(sentence + call + " answered " + got + ", due is " + want);
        }
    }

    void yes(String what, boolean holds) {
        same(what, holds ? 1 : 0, 1);
    }

    /** The call answered NONE, for this reason, and where() tells nothing of it. */
    void refused(GapRows x, String call, long got, int trouble) {
        same(call, got, GapRows.NONE);
        same(call + ", trouble()", x.trouble(), trouble);
        same(call + ", where()", x.where(), GapRows.NONE);
    }

    /** The call answered this and was not refused. */
    void told(GapRows x, String call, long got, long want) {
        same(call, got, want);
        same(call + ", trouble()", x.trouble(), 0);
    }

    void noIdle(GapRows x, int i) {
        boolean thrown = false;
        try {
            x.idle(i);
        } catch (NoSuchElementException e) {
            thrown = true;
        }
        yes("idle(" + i + ") throws NoSuchElementException", thrown);
    }

    /** The TEXT is refused by 4 with this FAULT; TAPE, STREAMS and what is told of it are as due then. */
    void fault(String text, int number, int place) {
        GapRows x = of("ranks error 7;stream kept every 9;push kept 4 5");
        same("a TEXT ahead", x.about(1), 1);
        feed(x, text);
        same("ranks of '" + text + "'", x.ranks(text.length()), GapRows.NONE);
        same("trouble() of '" + text + "'", x.trouble(), 4);
        same("fault() of '" + text + "'", x.fault(), number);
        same("where() of '" + text + "'", x.where(), place);
        same("THE TAPE is empty behind '" + text + "'", x.size(), 0);
        told(x, "the STREAMS stay behind '" + text + "'", x.stream(0, 0), 2);
        same("where() behind another call", x.where(), GapRows.NONE);
        same("fault() stays", x.fault(), number);
        same("ERROR stays", x.about(0), 7);
    }

    /** A new object with this TEXT, which has no FAULT. */
    GapRows fine(String text, int streams) {
        GapRows x = new GapRows();
        feed(x, text);
        told(x, "ranks of '" + text + "'", x.ranks(text.length()), streams);
        same("fault() of '" + text + "'", x.fault(), 0);
        same("where() of '" + text + "'", x.where(), GapRows.NONE);
        same("THE TAPE is empty behind '" + text + "'", x.size(), 0);
        return x;
    }

    /** The ROW of a STREAM is this one: VALUE, GAP, SPREAD of each TUPLE. */
    void row(GapRows x, int s, int... threes) {
        told(x, "TUPLES", x.stream(s, 1), threes.length / 3);
        for (int i = 0; i < threes.length; i++) {
            told(x, "tuple(" + s + ", " + i / 3 + ", " + i % 3 + ")", x.tuple(s, i / 3, i % 3), threes[i]);
        }
    }

    void finish() {
        System.out.println(wrong == 0 ? "all answers are as due" : wrong + " answers are not as due");
        if (wrong != 0) {
            System.exit(1);
        }
    }

    static void feed(GapRows x, String text) {
        for (int[] five : fives(text)) {
            x.feed(five[0], five[1], five[2], five[3], five[4]);
        }
    }

    static int put(GapRows x, String text) {
        feed(x, text);
        return x.ranks(text.length());
    }

    static GapRows of(String text) {
        GapRows x = new GapRows();
        put(x, text);
        return x;
    }

    /** The text by twenty bytes each, as feed() takes them, blanks behind it. */
    static int[][] fives(String text) {
        byte[] bytes = text.getBytes(StandardCharsets.ISO_8859_1);
        int[][] fives = new int[(bytes.length + 19) / 20][5];
        for (int i = 0; i < fives.length * 20; i++) {
            int b = i < bytes.length ? bytes[i] & 255 : 32;
            fives[i / 20][i % 20 / 4] = fives[i / 20][i % 20 / 4] << 8 | b;
        }
        return fives;
    }
}
