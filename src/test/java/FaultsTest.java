/** Promises 2 to 5: the TAPE, the TEXT and its FAULTS. */
public final class FaultsTest {
    private static final Due due = new Due();
    private static final String HEAD = "ranks error 10;";
    private static final String ONE = HEAD + "stream a every 3;";

    private static void tape() {
        GapRows x = new GapRows();
        due.same("size() at first", x.size(), 0);
        for (int i = 1; i <= 20; i++) {
            due.same("feed " + i, x.feed(0x20202020, 0x20202020, 0x20202020, 0x20202020, 0x20202020), 20 * i);
        }
        due.same("trouble() behind feeds", x.trouble(), 0);
        x.band(-1, 1);
        due.same("feed beyond 400", x.feed(1, 2, 3, 4, 5), GapRows.NONE);
        due.same("size() beyond 400", x.size(), 400);
        due.same("feed is never refused by a number", x.trouble(), 2);
        due.refused(x, "ranks(401)", x.ranks(401), 2);
        due.refused(x, "ranks(-1)", x.ranks(-1), 2);
        due.same("THE TAPE stays", x.size(), 400);
        due.same("fault() of ranks refused by 2", x.fault(), 0);
        due.same("ranks of blanks", x.ranks(400), GapRows.NONE);
        due.same("fault() of blanks", x.fault(), 1);
        due.same("where() of blanks", x.where(), 400);
        due.same("size()", x.size(), 0);
        due.refused(x, "ranks(1) of an empty TAPE", x.ranks(1), 2);
        due.same("fault() stays behind a refusal by 2", x.fault(), 1);
        due.same("ranks(0)", x.ranks(0), GapRows.NONE);
        due.same("where() of nothing", x.where(), 0);
        due.same("trouble() of nothing", x.trouble(), 4);
    }

    private static void bytesInOrder() {
        GapRows x = new GapRows();
        // "rank" "s er" "ror " "2;st" "ream" " a e" "very" " 1;p" "ush " "a 77"
        x.feed(0x72616e6b, 0x73206572, 0x726f7220, 0x323b7374, 0x7265616d);
        due.same("feed", x.feed(0x20612065, 0x76657279, 0x20313b70, 0x75736820, 0x61203737), 40);
        due.told(x, "ranks(40)", x.ranks(40), 1);
        due.same("the VALUE", x.tuple(0, 0, 0), 77);
        x.feed(0x72616e6b, 0x73206572, 0x726f7220, 0x323b7374, 0x7265616d);
        x.feed(0x20612065, 0x76657279, 0x20313b70, 0x75736820, 0x61203737);
        due.told(x, "the first bytes alone", x.ranks(39), 1);
        due.same("the VALUE", x.tuple(0, 0, 0), 7);
        due.same("the rest is gone", x.size(), 0);
    }

    private static void form() {
        due.fault(";", 1, 0);
        due.fault("foo", 1, 0);
        due.fault("error 4", 1, 0);
        due.fault("7", 1, 0);
        due.fault("  Ranks", 1, 2);
        due.fault("ranks", 1, 5);
        due.fault("ranks   ", 1, 8);
        due.fault("ranks 10", 1, 6);
        due.fault("ranks error", 1, 11);
        due.fault("ranks error;", 1, 11);
        due.fault("ranks error x", 1, 12);
        due.fault("ranks error 10 10", 1, 15);
        due.fault("ranks error 10 stream", 1, 15);
        due.fault("ranks error 100a", 2, 12);
        due.fault("ranks error 1000", 1, 12);
        due.fault("rankses error 10", 1, 0);
        due.fault("rank error 10", 1, 0);
        due.fault("ranksx error 10", 1, 0);
        due.fault("banks error 10", 1, 0);
        due.fault("ranks errors 10", 1, 6);
        due.fault("ranks terror 10", 1, 6);
        due.fault(HEAD + "pushx a 1", 1, 15);
        due.fault(HEAD + "bush a 1", 1, 15);
        due.fault(HEAD + "stream a everyx 5", 1, 24);
        due.fault(HEAD, 1, 15);
        due.fault(HEAD + ";", 1, 15);
        due.fault(HEAD + "stream", 1, 21);
        due.fault(HEAD + "stream 5", 1, 22);
        due.fault(HEAD + "stream every", 1, 27);
        due.fault(HEAD + "stream ranks every 5", 1, 22);
        due.fault(HEAD + "stream stream every 5", 1, 22);
        due.fault(HEAD + "stream push every 5", 1, 22);
        due.fault(HEAD + "stream abcdefg every 5", 1, 22);
        due.fault(HEAD + "stream a error 5", 1, 24);
        due.fault(HEAD + "stream a every", 1, 29);
        due.fault(HEAD + "stream a every;", 1, 29);
        due.fault(HEAD + "stream a every 5 5", 1, 32);
        due.fault(HEAD + "stream a every 1000", 1, 30);
        due.fault(HEAD + "stream a every 5-", 1, 31);
        due.fault(HEAD + "stream a every 5" + (char) 200, 1, 31);
        due.fault(HEAD + "stream a every 5" + (char) 0, 1, 31);
        due.fault(ONE, 1, 32);
        due.fault(ONE + "push", 1, 36);
        due.fault(ONE + "push 1", 1, 37);
        due.fault(ONE + "push push 1", 1, 37);
        due.fault(ONE + "push a", 1, 38);
        due.fault(ONE + "push a;", 1, 38);
        due.fault(ONE + "push a b", 1, 39);
        due.fault(ONE + "push a 1 b", 1, 41);
        due.fault(ONE + "push a 1 0000", 1, 41);
        due.fault(ONE + "push a 1;;", 1, 41);
        due.fault(ONE + "push a 1 ,", 1, 41);
    }

    private static void otherFaults() {
        due.fault("ranks error 1", 2, 12);
        due.fault("ranks error 41", 2, 12);
        due.fault("ranks error 0 ?", 2, 12);
        due.fault(HEAD + "stream a every 0", 2, 30);
        due.fault(HEAD + "stream a every 61", 2, 30);
        due.fault(HEAD + "stream a every 999 9", 2, 30);
        due.fault(ONE + "stream a every 0", 3, 39);
        due.fault(ONE + "stream a ?", 3, 39);
        due.fault(ONE + "push b 1", 3, 37);
        due.fault(ONE + "push b", 3, 37);
        due.fault(ONE + "push b 1;stream b every 1", 3, 37);
        due.fault(HEAD + "push a 1", 3, 20);
        due.fault(ONE + "ranks", 4, 32);
        due.fault(ONE + "ranks error 99", 4, 32);
        due.fault(HEAD + "ranks error 5", 4, 15);
        String four = ONE + "stream b every 1;stream c every 1;stream d every 1;";
        due.fault(four + "stream e every 1", 5, 83);
        due.fault(four + "stream a", 5, 83);
        due.fault(four + "stream", 5, 83);
        due.fault("stream a every 5;ranks error 5", 6, 0);
        due.fault("  push a 5", 6, 2);
        due.fault("push", 6, 0);
        due.fault("stream", 6, 0);
        due.fault("ranks error 10", 6, 14);
        due.fault("ranks error 10  ", 6, 16);
    }

    private static void fineTexts() {
        GapRows x = due.fine("ranks error 2;stream a every 60", 1);
        due.same("ERROR", x.about(0), 2);
        due.same("EVERY", x.stream(0, 3), 60);
        x = due.fine("  ranks error40 ;stream every every1;stream error every 060;push every 0 999 007 ;push error 1  ", 2);
        due.same("ERROR", x.about(0), 40);
        due.same("EVERY", x.stream(1, 3), 60);
        due.same("greatest", x.stream(0, 7), 999);
        due.same("a WHOLE with noughts ahead", x.times(0, 7), 1);
        due.same("PUSHES of error", x.stream(1, 0), 1);
        x = due.fine(ONE + "push a 1;stream abcdef every 1;stream b every 1;stream aa every 1;push a 2;push abcdef 3", 4);
        due.same("VALUES", x.stream(0, 0), 2);
        due.same("VALUES", x.stream(1, 6), 3);
        StringBuilder many = new StringBuilder("ranks error 9;stream a every 7;push a");
        while (many.length() + 2 <= 400) {
            many.append(" 1");
        }
        x = due.fine(many.toString(), 1);
        due.same("as many PUSHES as a TEXT can tell", x.stream(0, 0), (many.length() - 37) / 2);
    }

    private static void newText() {
        GapRows x = Due.of(ONE + "stream b every 2;push a 1 2 3 4;push b 1");
        due.same("COMPRESSIONS", x.about(4), 1);
        x.seed(500);
        due.same("ranks", Due.put(x, "ranks error 4;stream z every 7;push z 9"), 1);
        due.same("VALUES of all", x.about(2), 1);
        due.same("COMPRESSIONS begin anew", x.about(4), 0);
        due.same("PUSHES since begin anew", x.stream(0, 4), 1);
        due.same("SEED stays", x.about(5), 500);
        due.same("what came before is gone", x.times(0, 1), 0);
        due.refused(x, "the second STREAM is gone", x.stream(1, 0), 1);
        due.same("ranks", Due.put(x, ONE + "stream b every 2"), 2);
        due.same("a STREAM told again is empty", x.stream(1, 0), 0);
        due.same("a STREAM told again is empty", x.stream(0, 0), 0);
    }

    public static void main(String[] args) {
        tape();
        bytesInOrder();
        form();
        otherFaults();
        fineTexts();
        newText();
        due.finish();
    }
}
