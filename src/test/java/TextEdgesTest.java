/** Term I and promises 1 to 5 and 49 at their edges: each sentence by itself, each number on both sides. */
public final class TextEdgesTest {
    private static final Due due = new Due();
    // 15 bytes, 32 bytes, 83 bytes
    private static final String HEAD = "ranks error 10;";
    private static final String ONE = HEAD + "stream a every 3;";
    private static final String FOUR = ONE + "stream b every 1;stream c every 1;stream d every 1;";

    private static boolean isLetter(int c) {
        return c >= 97 && c <= 122;
    }

    private static boolean isDigit(int c) {
        return c >= 48 && c <= 57;
    }

    private static void tapeHas400() {
        due.by("THE TAPE has 400 bytes; feed: NONE, and none comes, if there would be more");
        GapRows x = new GapRows();
        due.same("size()", x.size(), 0);
        String text = filled("ranks error 9;stream a every 60;push a 5", 400, " 7");
        int size = 0;
        for (int[] f : Due.fives(text)) {
            size += 20;
            due.same("feed", x.feed(f[0], f[1], f[2], f[3], f[4]), size);
            due.same("size()", x.size(), size);
        }
        due.same("size()", size, 400);
        for (int i = 0; i < 3; i++) {
            due.same("feed beyond 400", x.feed(-1, -1, -1, -1, -1), GapRows.NONE);
            due.same("size() then", x.size(), 400);
        }
        due.told(x, "ranks(400): what lay there has stayed", x.ranks(400), 1);
        due.told(x, "VALUES", x.stream(0, 0), 181);
        due.told(x, "sum(0)", x.sum(0), 5 + 180 * 7);
        due.same("THE TAPE is empty then", x.size(), 0);
        due.same("and takes bytes again", x.feed(0, 0, 0, 0, 0), 20);
    }

    /** The text with scraps behind it, up to so many bytes. */
    private static String filled(String text, int length, String scrap) {
        StringBuilder all = new StringBuilder(text);
        while (all.length() + scrap.length() <= length) {
            all.append(scrap);
        }
        return all.toString();
    }

    private static void highestFirst() {
        due.by("feed: of each number the highest first");
        int[] numbers = {0x72616e6b, 0x73206572, 0x726f7220, 0x31303b73, 0x20202020};
        for (int i = 0; i < 5; i++) {
            GapRows x = new GapRows();
            int[] a = numbers.clone();
            // bytes 128, 0, 0, 0
            a[i] = Integer.MIN_VALUE;
            x.feed(a[0], a[1], a[2], a[3], a[4]);
            due.same("ranks", x.ranks(20), GapRows.NONE);
            due.same("fault() with the least int", x.fault(), 1);
            // a WORD that is cut short by it is met first
            int[] places = {0, 0, 6, 12, 15};
            due.same("where() with the least int at " + i, x.where(), places[i]);
            x = new GapRows();
            // bytes 127, 255, 255, 255
            a[i] = Integer.MAX_VALUE;
            x.feed(a[0], a[1], a[2], a[3], a[4]);
            due.same("ranks", x.ranks(20), GapRows.NONE);
            due.same("where() with the greatest int at " + i, x.where(), places[i]);
        }
        GapRows x = new GapRows();
        x.feed(-1, -1, -1, -1, -1);
        due.same("ranks of bytes 255", x.ranks(20), GapRows.NONE);
        due.same("where()", x.where(), 0);
        x.feed(0x20202020, 0x202020ff, 0x20202020, 0x20202020, 0x20202020);
        due.same("ranks of the byte 255 at 7", x.ranks(20), GapRows.NONE);
        due.same("where()", x.where(), 7);
        x.feed(0x20202020, 0x20202020, 0x00202020, 0x20202020, 0x20202020);
        due.same("ranks of the byte 0 at 8", x.ranks(20), GapRows.NONE);
        due.same("where()", x.where(), 8);
    }

    private static void ranksOfN() {
        due.by("ranks: 2 (n; THE TAPE stays)");
        String text = "ranks error 9;stream a every 60;push a 5 7";
        for (int n : new int[] {Integer.MIN_VALUE, -1, 61, Integer.MAX_VALUE}) {
            GapRows x = Due.of("ranks error 7;stream kept every 9;push kept 4 5");
            Due.feed(x, text);
            due.refused(x, "ranks(" + n + ")", x.ranks(n), 2);
            due.same("size() stays", x.size(), 60);
            due.same("the STREAMS stay", x.stream(0, 0), 2);
            due.same("fault()", x.fault(), 0);
            due.told(x, "THE TAPE stays: ranks(60)", x.ranks(60), 1);
            due.told(x, "sum(0)", x.sum(0), 12);
        }
        GapRows x = new GapRows();
        due.refused(x, "ranks(1) of an empty TAPE", x.ranks(1), 2);
        due.refused(x, "ranks(-1) of an empty TAPE", x.ranks(-1), 2);
        due.by("ranks: the first n bytes (THE TAPE is empty then)");
        x = Due.of(text.substring(0, 31));
        due.told(x, "the bytes behind n count for nothing", x.stream(0, 0), 0);
        due.same("size()", x.size(), 0);
        due.by("ranks: of no bytes");
        x = Due.of("ranks error 7;stream kept every 9;push kept 4 5");
        due.same("ranks(0)", x.ranks(0), GapRows.NONE);
        due.same("trouble()", x.trouble(), 4);
        due.same("fault()", x.fault(), 1);
        due.same("where()", x.where(), 0);
        due.told(x, "the STREAMS stay", x.stream(0, 0), 2);
        Due.feed(x, text);
        due.same("ranks(0) of a TAPE with bytes", x.ranks(0), GapRows.NONE);
        due.same("where()", x.where(), 0);
        due.same("THE TAPE is empty then", x.size(), 0);
    }

    private static void faultAndWhere() {
        due.by("fault: the FAULT of the latest ranks() not refused by 2; 0 without one");
        GapRows x = new GapRows();
        due.same("fault() of a new object", x.fault(), 0);
        due.same("where() of a new object", x.where(), GapRows.NONE);
        Due.put(x, "ranks error 41");
        due.same("fault()", x.fault(), 2);
        due.same("where()", x.where(), 12);
        due.same("where() again", x.where(), 12);
        due.same("fault() is no call that may be refused", x.fault(), 2);
        due.same("where() then", x.where(), 12);
        due.refused(x, "ranks(1)", x.ranks(1), 2);
        due.same("fault() behind a refusal by 2", x.fault(), 2);
        due.refused(x, "ranks(-1)", x.ranks(-1), 2);
        due.same("fault() behind a refusal by 2", x.fault(), 2);
        Due.put(x, ONE + "ranks");
        due.same("fault() of the later one", x.fault(), 4);
        due.same("where() of the later one", x.where(), 32);
        due.told(x, "ranks", Due.put(x, "ranks error 4;stream a every 3"), 1);
        due.same("fault() of a good one", x.fault(), 0);
        due.same("where() of a good one", x.where(), GapRows.NONE);
        due.refused(x, "ranks(1)", x.ranks(1), 2);
        due.same("fault()", x.fault(), 0);
        due.by("where: its place, if the latest call that may be refused was by 4; NONE else");
        Due.put(x, "  ?");
        due.same("where()", x.where(), 2);
        due.told(x, "a call that isn't refused", x.check(0), 0);
        due.same("where() then", x.where(), GapRows.NONE);
        Due.put(x, "  ?");
        due.refused(x, "a call refused by 1", x.check(1), 1);
        Due.put(x, "  ?");
        due.refused(x, "a call refused by 2", x.push(0, 1000), 2);
        Due.put(x, "  ?");
        due.refused(x, "a call refused by 5", x.quota(0, 0, 1, 0), 5);
        due.same("fault() all the while", x.fault(), 1);
    }

    /** Every byte behind the last TOKEN of a good TEXT. */
    private static void everyByteBehind() {
        due.by("blanks, 32, part TOKENS and mean nothing else; any byte that begins no TOKEN");
        String text = HEAD + "stream a every 5";
        for (int c = 0; c < 256; c++) {
            if (c == 32 || isDigit(c)) {
                GapRows x = due.fine(text + (char) c, 1);
                due.told(x, "EVERY", x.stream(0, 3), c == 32 ? 5 : 50 + c - 48);
            } else {
                due.fault(text + (char) c, 1, c == 59 ? 32 : 31);
            }
        }
    }

    /** Every byte where a NAME is due, and ahead of all. */
    private static void everyByteAsName() {
        due.by("WORDS of small letters");
        for (int c = 0; c < 256; c++) {
            String text = HEAD + "stream " + (char) c + " every 5";
            if (isLetter(c)) {
                due.fine(text, 1);
                due.fine(HEAD + "stream x" + (char) c + " every 5", 1);
                due.fine(HEAD + "stream " + (char) c + "x every 5", 1);
            } else {
                // a blank there: every is the NAME then, and 5 stands where every is due
                due.fault(text, 1, c == 32 ? 30 : 22);
            }
        }
        due.by("a NAME of push: told, not told, no NAME");
        for (int c = 0; c < 256; c++) {
            String text = ONE + "push " + (char) c + " 7";
            if (c == 'a') {
                due.fine(text, 1);
            } else {
                // a blank there: 7 stands where a NAME is due
                due.fault(text, isLetter(c) ? 3 : 1, c == 32 ? 39 : 37);
            }
        }
        due.by("any byte ahead of all");
        for (int c = 0; c < 256; c++) {
            if (c == 32) {
                due.fine((char) c + HEAD + "stream a every 5", 1);
            } else {
                due.fault((char) c + HEAD + "stream a every 5", 1, 0);
            }
        }
    }

    private static void everyByteAsWhole() {
        due.by("WHOLES of digits");
        for (int c = 0; c < 256; c++) {
            String text = ONE + "push a " + (char) c;
            if (isDigit(c)) {
                GapRows x = due.fine(text, 1);
                due.told(x, "the VALUE", x.sum(0), c - 48);
                x = due.fine(ONE + "push a 9" + (char) c + "9", 1);
                due.told(x, "the VALUE", x.sum(0), 909 + 10 * (c - 48));
            } else {
                due.fault(text, 1, c == 32 ? 40 : 39);
            }
        }
    }

    private static void blanks() {
        due.by("blanks part TOKENS and mean nothing else");
        GapRows x = due.fine("   ranks   error  2  ;  stream   a   every   1  ;  push   a   1   2   ", 1);
        due.told(x, "VALUES", x.stream(0, 0), 2);
        x = due.fine("ranks error2;stream a every1;push a1 2;stream b every3;push b4", 2);
        due.told(x, "sum(0)", x.sum(0), 3);
        due.told(x, "sum(1)", x.sum(1), 4);
        x = due.fine(ONE + "push a 12 3;push a 1 23", 1);
        due.told(x, "sum(0)", x.sum(0), 39);
        due.told(x, "VALUES", x.stream(0, 0), 4);
        due.fault("ra nks error 2;stream a every 1", 1, 0);
        due.fault("ranks er ror 2;stream a every 1", 1, 6);
        due.fault("rankserror 2;stream a every 1", 1, 0);
        due.fault("ranks error 2;streama every 1", 1, 14);
        due.fault("ranks error 2;stream aevery 1", 1, 28);
        due.fault("ranks error 2 0;stream a every 1", 1, 14);
        due.fault("", 1, 0);
        due.fault(" ", 1, 1);
        due.fault(filled("", 20, " "), 1, 20);
        due.fault(filled("", 400, " "), 1, 400);
    }

    private static void lettersOfWords() {
        due.by("WORDS of 1 to 6 small letters that stand together");
        String letters = "abcdefghijklmnopqrstuvwxyz";
        for (int n = 1; n <= 6; n++) {
            String name = letters.substring(0, n);
            GapRows x = due.fine(HEAD + "stream " + name + " every 5;push " + name + " 7", 1);
            due.told(x, "sum(0)", x.sum(0), 7);
        }
        for (int n = 7; n <= 26; n++) {
            due.fault(HEAD + "stream " + letters.substring(0, n) + " every 5", 1, 22);
            due.fault(ONE + "push " + letters.substring(0, n) + " 7", 1, 37);
        }
        due.fault(filled("", 400, "a"), 1, 0);
        due.fault(HEAD + "stream " + filled("", 370, "a"), 1, 22);
        due.fault("ranksranks error 5", 1, 0);
        due.fault("ranks errorerror 5", 1, 6);
        due.fault(HEAD + "streams a every 5", 1, 15);
        due.fault(HEAD + "stream a everyevery 5", 1, 24);
        due.by("WORDS are unlike if one letter is");
        GapRows x = due.fine(HEAD + "stream aaaaaa every 1;stream aaaaab every 2;stream baaaaa every 3;"
            + "stream aaaaa every 4;push aaaaab 5;push aaaaa 6;push baaaaa 7;push aaaaaa 8", 4);
        int[] sums = {8, 5, 7, 6};
        for (int s = 0; s < 4; s++) {
            due.told(x, "sum(" + s + ")", x.sum(s), sums[s]);
        }
        x = due.fine(HEAD + "stream z every 1;stream zz every 2;stream zzzzzz every 3;stream zzzzz every 4;"
            + "push zz 5;push zzzzz 6;push zzzzzz 7;push z 8", 4);
        int[] others = {8, 5, 7, 6};
        for (int s = 0; s < 4; s++) {
            due.told(x, "sum(" + s + ")", x.sum(s), others[s]);
        }
    }

    private static void digitsOfWholes() {
        due.by("WHOLES of 1 to 3 digits that stand together");
        String[] wholes = {"0", "9", "00", "09", "10", "99", "000", "007", "070", "999"};
        for (String whole : wholes) {
            GapRows x = due.fine(ONE + "push a " + whole, 1);
            due.told(x, "VALUES", x.stream(0, 0), 1);
            due.told(x, "the VALUE", x.sum(0), Integer.parseInt(whole));
        }
        String[] longer = {"0000", "0001", "1000", "9999", "00000", "4294967297", "18446744073709551617",
            filled("", 350, "0")};
        for (String run : longer) {
            due.fault(ONE + "push a " + run, 1, 39);
            due.fault(ONE + "push a 1 2 " + run + " 3", 1, 43);
            due.fault("ranks error " + run, 1, 12);
            due.fault(HEAD + "stream a every " + run, 1, 30);
        }
        due.fault(ONE + "push a -1", 1, 39);
        due.fault(ONE + "push a +1", 1, 39);
        due.fault(ONE + "push a 1.5", 1, 40);
        due.fault("ranks error -2", 1, 12);
    }

    private static void semicolons() {
        due.by("LINE {; LINE}");
        due.fault(";", 1, 0);
        due.fault(";" + HEAD, 1, 0);
        due.fault(HEAD, 1, 15);
        due.fault(HEAD + " ", 1, 16);
        due.fault(HEAD + ";", 1, 15);
        due.fault("ranks error 10; ;stream a every 3", 1, 16);
        due.fault(ONE, 1, 32);
        due.fault(ONE + "   ", 1, 35);
        due.fault(ONE + ";", 1, 32);
        due.fault(ONE + "push a 1;", 1, 41);
        due.fault(ONE + "push a 1; ;push a 1", 1, 42);
        due.fault("ranks;error 10", 1, 5);
        due.fault("ranks error;10", 1, 11);
        due.fault(HEAD + "stream;a every 3", 1, 21);
        due.fault(HEAD + "stream a;every 3", 1, 23);
        due.fault(HEAD + "stream a every;3", 1, 29);
        due.fault(ONE + "push;a 1", 1, 36);
        due.fault(ONE + "push a;1", 1, 38);
        due.fault(ONE + "push a 1 push a 2", 1, 41);
        due.fault(ONE + "push a 1;2", 1, 41);
        due.fault(HEAD + "stream a every 3 stream b every 3", 1, 32);
    }

    private static void errorsOfText() {
        due.by("ranks error WHOLE (ERROR, 2 .. 40)");
        for (int n = 0; n <= 999; n++) {
            String text = "ranks error " + n + ";stream a every 5";
            if (n >= 2 && n <= 40) {
                GapRows x = due.fine(text, 1);
                due.told(x, "ERROR", x.about(0), n);
            } else {
                due.fault(text, 2, 12);
            }
        }
        due.fault("ranks error 000", 2, 12);
        due.fault("ranks error 001", 2, 12);
        due.fault("ranks error 041", 2, 12);
        due.fine("ranks error 002;stream a every 5", 1);
        due.fine("ranks error 040;stream a every 5", 1);
    }

    private static void everysOfText() {
        due.by("stream NAME every WHOLE (EVERY, 1 .. 60)");
        for (int n = 0; n <= 999; n++) {
            String text = HEAD + "stream a every " + n;
            if (n >= 1 && n <= 60) {
                GapRows x = due.fine(text, 1);
                due.told(x, "EVERY", x.stream(0, 3), n);
            } else {
                due.fault(text, 2, 30);
            }
        }
        due.fault(HEAD + "stream a every 000", 2, 30);
        due.fault(HEAD + "stream a every 061", 2, 30);
        due.fine(HEAD + "stream a every 001", 1);
        due.fine(HEAD + "stream a every 060", 1);
    }

    private static void valuesOfText() {
        due.by("push NAME WHOLE {WHOLE} (0 .. 999)");
        for (int n = 0; n <= 999; n++) {
            GapRows x = due.fine(ONE + "push a " + n, 1);
            due.told(x, "the VALUE", x.tuple(0, 0, 0), n);
        }
        due.fault(ONE + "push a", 1, 38);
        due.fault(ONE + "push a ", 1, 39);
        due.fault(ONE + "push", 1, 36);
    }

    private static void upToFour() {
        due.by("a STREAM, numbered from 0; up to 4");
        String text = "ranks error 10";
        for (int streams = 1; streams <= 4; streams++) {
            text += ";stream " + (char) ('z' - streams) + " every " + streams;
            GapRows x = due.fine(text, streams);
            due.told(x, "STREAMS", x.about(1), streams);
            for (int s = 0; s < streams; s++) {
                due.told(x, "EVERY", x.stream(s, 3), s + 1);
            }
            due.refused(x, "the next STREAM", x.stream(streams, 3), 1);
        }
        due.by("5 MANY: a fifth STREAM, at its WORD");
        due.fault(text + ";stream a every 5", 5, text.length() + 1);
        due.fault(text + ";stream a every 5;stream b every 5", 5, text.length() + 1);
        due.fault(text + ";  stream a every 5", 5, text.length() + 3);
        due.fault(text + ";stream", 5, text.length() + 1);
        due.fault(text + ";stream z every 0", 5, text.length() + 1);
        due.fault(text + ";stream push", 5, text.length() + 1);
        due.fault(FOUR + "push a 1;push d 2;stream e every 9", 5, 101);
        due.fault(FOUR + "streams", 1, 83);
        due.fine(FOUR + "push a 1;push d 2", 4);
    }

    private static void names() {
        due.by("NAMES are WORDS but ranks, stream, push");
        for (String name : new String[] {"ranks", "stream", "push"}) {
            due.fault(HEAD + "stream " + name + " every 5", 1, 22);
            due.fault(ONE + "push " + name + " 5", 1, 37);
        }
        for (String name : new String[] {"error", "every", "rank", "rankss", "strea", "pus", "pushs", "pushed"}) {
            GapRows x = due.fine(HEAD + "stream " + name + " every 5;push " + name + " 6", 1);
            due.told(x, "sum(0)", x.sum(0), 6);
            due.fault(ONE + "push " + name + " 5", 3, 37);
        }
        due.by("3 NAME: a NAME told again; at it");
        for (char again = 'a'; again <= 'c'; again++) {
            String three = ONE + "stream b every 1;stream c every 1;";
            due.fault(three + "stream " + again + " every 1", 3, 73);
            due.fault(three + "stream " + again, 3, 73);
            due.fault(three + "stream " + again + " every 0", 3, 73);
            due.fault(three + "stream  " + again + " ?", 3, 74);
        }
        due.by("3 NAME: one of push that wasn't told; at it");
        due.fault(HEAD + "push a 1", 3, 20);
        due.fault(ONE + "push b 1", 3, 37);
        due.fault(ONE + "push aa 1", 3, 37);
        due.fault(ONE + "push b", 3, 37);
        due.fault(ONE + "push b ?", 3, 37);
        due.fault(ONE + "push b 1;stream b every 1", 3, 37);
        due.fine(ONE + "stream b every 1;push b 1", 2);
        due.by("a NAME of an earlier TEXT isn't told");
        GapRows x = Due.of(FOUR + "push b 1");
        due.same("ranks", Due.put(x, ONE + "push b 1"), GapRows.NONE);
        due.same("fault()", x.fault(), 3);
        due.same("where()", x.where(), 37);
        due.told(x, "ranks", Due.put(x, HEAD + "stream b every 1"), 1);
    }

    private static void pushedFromTheLeft() {
        due.by("these VALUES are PUSHED from the left on");
        // 1, 9 and 5 are COMPRESSED by BOUND 3; 4 comes then
        GapRows x = due.fine("ranks error 2;stream a every 3;push a 1 9 5 4", 1);
        due.row(x, 0, 1, 1, 0, 4, 1, 1, 9, 2, 0);
        x = due.fine("ranks error 2;stream a every 3;push a 4 1 9 5", 1);
        due.row(x, 0, 1, 1, 0, 5, 1, 1, 9, 2, 0);
        x = due.fine("ranks error 2;stream a every 3;stream b every 1;push a 4 1;push b 7;push a 9 5;push b 8", 2);
        due.row(x, 0, 1, 1, 0, 5, 1, 1, 9, 2, 0);
        due.row(x, 1, 7, 1, 0, 8, 1, 0);
        due.by("STREAMS may be told behind a push");
        x = due.fine("ranks error 2;stream a every 3;push a 4;stream b every 1;push b 7;push a 9", 2);
        due.told(x, "VALUES", x.stream(0, 0), 2);
        due.told(x, "VALUES", x.stream(1, 0), 1);
    }

    private static void again() {
        due.by("4 AGAIN: a second ranks, at that WORD");
        due.fault(HEAD + "ranks error 10", 4, 15);
        due.fault(HEAD + "ranks", 4, 15);
        due.fault(HEAD + "  ranks ?", 4, 17);
        due.fault(HEAD + "ranks error 0;ranks", 4, 15);
        due.fault(ONE + "ranks error 10;stream a every 3", 4, 32);
        due.fault(FOUR + "ranks error 10", 4, 83);
        due.fault(FOUR + "push a 1 2;ranks", 4, 94);
        due.by("a ranks that is no LINE's first WORD is FORM");
        due.fault("ranks ranks", 1, 6);
        due.fault("ranks error ranks", 1, 12);
        due.fault("ranks error 10 ranks", 1, 15);
        due.fault(ONE + "push a ranks", 1, 39);
        due.fault(ONE + "push a 1 ranks", 1, 41);
    }

    private static void lacks() {
        due.by("6 LACKS: any LINE ahead of ranks, at its WORD");
        due.fault("stream a every 3;" + HEAD, 6, 0);
        due.fault("push a 1;" + HEAD, 6, 0);
        due.fault("  stream", 6, 2);
        due.fault("  push", 6, 2);
        due.fault("stream ?", 6, 0);
        due.fault("push ranks", 6, 0);
        due.fault("stream a every 0", 6, 0);
        due.by("6 LACKS: at the end: no STREAM");
        due.fault("ranks error 10", 6, 14);
        due.fault("ranks error 10 ", 6, 15);
        due.fault(filled("ranks error 10", 400, " "), 6, 400);
        due.by("of one place the least number");
        due.fault("ranks error 10;", 1, 15);
        due.fault("ranks error", 1, 11);
        due.fault("", 1, 0);
    }

    private static void atTheEnd() {
        due.by("FORM: (the end: its place)");
        String text = "ranks error 10;stream a every 5;push a 7";
        int[] ends = {5, 11};
        for (int n : ends) {
            due.fault(text.substring(0, n), 1, n);
            due.fault(text.substring(0, n) + " ", 1, n + 1);
        }
        due.fault(text.substring(0, 21), 1, 21);
        due.fault(text.substring(0, 23), 1, 23);
        due.fault(text.substring(0, 29), 1, 29);
        due.fault(text.substring(0, 36), 1, 36);
        due.fault(text.substring(0, 38), 1, 38);
        due.by("a TEXT cut short at each byte");
        // what is cut within ranks and error is no such WORD: at it
        int[] places = {0, 0, 0, 0, 0, 5, 6, 6, 6, 6, 6, 11, 12};
        for (int n = 0; n < places.length; n++) {
            due.fault(text.substring(0, n), 1, places[n]);
        }
        due.fault(text.substring(0, 13), 2, 12);
        due.fault(text.substring(0, 14), 6, 14);
        int[] later = {15, 15, 15, 15, 15, 15, 21, 22, 23, 24, 24, 24, 24, 24, 29, 30};
        for (int n = 15; n < 31; n++) {
            due.fault(text.substring(0, n), 1, later[n - 15]);
        }
        due.fine(text.substring(0, 31), 1);
        int[] last = {32, 32, 32, 32, 36, 37, 38, 39};
        for (int n = 32; n < 40; n++) {
            due.fault(text.substring(0, n), 1, last[n - 32]);
        }
        due.fine(text, 1);
    }

    private static void fullText() {
        due.by("a TEXT of all 400 bytes");
        String pushes = filled("ranks error 9;stream a every 60;push a 5", 400, " 7");
        GapRows x = due.fine(pushes, 1);
        due.told(x, "VALUES", x.stream(0, 0), 181);
        x = due.fine(pushes.substring(0, 399) + "9", 1);
        due.told(x, "greatest", x.stream(0, 7), 9);
        due.fault(pushes.substring(0, 399) + "?", 1, 399);
        due.fault(pushes.substring(0, 399) + ";", 1, 400);
        due.fault(pushes.substring(0, 393) + ";push b", 3, 399);
        due.fault(pushes.substring(0, 394) + ";ranks", 4, 395);
        String lines = filled(FOUR + "push a 1", 400, ";push a 1");
        x = due.fine(lines, 4);
        due.told(x, "VALUES", x.stream(0, 0), 35);
        due.fault(filled(FOUR, 399, " ") + "x", 1, 399);
        due.fault(filled(lines, 400, ";"), 1, 398);
    }

    /** LINES with a FAULT each: the LINE, its number, its place in the LINE. */
    private static void firstFromTheLeft() {
        due.by("FAULTS, the first that is met from the left");
        String[] lines = {"foo", "?", "stream b every 61", "stream b every 5 5", "stream a every 5", "push q 1", "push a",
            "ranks error 5"};
        int[] numbers = {1, 1, 2, 1, 3, 3, 1, 4};
        int[] places = {0, 0, 15, 17, 7, 5, 6, 0};
        for (int i = 0; i < lines.length; i++) {
            due.fault(ONE + lines[i], numbers[i], 32 + places[i]);
            for (int j = 0; j < lines.length; j++) {
                due.fault(ONE + lines[i] + ";" + lines[j], numbers[i], 32 + places[i]);
                due.fault(ONE + "push a 5;" + lines[i] + ";" + lines[j], numbers[i], 41 + places[i]);
            }
            due.fault("stream a every 5;" + lines[i], 6, 0);
            due.fault(lines[i].startsWith("ranks") ? "push" : lines[i], i < 2 ? 1 : 6, 0);
            due.fault("ranks error 1;" + lines[i], 2, 12);
        }
        String[] last = {"foo", "push q 1", "ranks error 5", "stream e every 61"};
        int[] lastNumbers = {1, 3, 4, 5};
        int[] lastPlaces = {0, 5, 0, 0};
        for (int i = 0; i < last.length; i++) {
            for (String line : last) {
                due.fault(FOUR + last[i] + ";" + line, lastNumbers[i], 83 + lastPlaces[i]);
            }
        }
    }

    private static void faultyTextChangesNothing() {
        due.by("ranks: 4 (the STREAMS stay)");
        GapRows x = Due.of("ranks error 2;stream a every 3;stream b every 1;push a 1 9 5 4;push b 7");
        x.seed(9);
        int[] numbers = {1, 2, 3, 4, 5, 6};
        String[] texts = {HEAD + "stream z every 9;push z 1 2 3;", "ranks error 1", ONE + "push a 1;push b 2",
            ONE + "push a 1;ranks", FOUR + "push a 5;stream e every 1", "ranks error 40"};
        for (int i = 0; i < texts.length; i++) {
            due.same("ranks of '" + texts[i] + "'", Due.put(x, texts[i]), GapRows.NONE);
            due.same("trouble()", x.trouble(), 4);
            due.same("fault()", x.fault(), numbers[i]);
            due.same("size()", x.size(), 0);
            int[] all = {2, 2, 5, 4, 2, 9};
            for (int what = 0; what <= 5; what++) {
                due.told(x, "about(" + what + ")", x.about(what), all[what]);
            }
            due.row(x, 0, 1, 1, 0, 4, 1, 1, 9, 2, 0);
            due.told(x, "PUSHES since", x.stream(0, 4), 1);
            due.told(x, "sum(0)", x.sum(0), 19);
        }
    }

    public static void main(String[] args) {
        tapeHas400();
        highestFirst();
        ranksOfN();
        faultAndWhere();
        everyByteBehind();
        everyByteAsName();
        everyByteAsWhole();
        blanks();
        lettersOfWords();
        digitsOfWholes();
        semicolons();
        errorsOfText();
        everysOfText();
        valuesOfText();
        upToFour();
        names();
        pushedFromTheLeft();
        again();
        lacks();
        atTheEnd();
        fullText();
        firstFromTheLeft();
        faultyTextChangesNothing();
        due.finish();
    }
}
