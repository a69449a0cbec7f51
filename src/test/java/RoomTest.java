import java.lang.management.ManagementFactory;

/** All calls of a run live in one room: only what is kept is made, once, and no call makes more. */
public final class RoomTest {
    private static final Due due = new Due();
    private static final String TEXT =
        "ranks error 40;stream a every 60;stream b every 60;stream c every 1;stream d every 7;push a 1 2 3";

    private static long made() {
        return ((com.sun.management.ThreadMXBean) ManagementFactory.getThreadMXBean()).getCurrentThreadAllocatedBytes();
    }

    private static int allCalls(GapRows x, int[][] text) {
        int sum = 0;
        for (int i = 0; i < text.length; i++) {
            sum += x.feed(text[i][0], text[i][1], text[i][2], text[i][3], text[i][4]);
        }
        sum += x.ranks(TEXT.length());
        for (int s = 0; s < 4; s++) {
            sum += x.draw(s, 200, 1000) + x.stream(s, 9) + x.tuple(s, 5, 6) + x.goes(s, 5) + x.check(s)
                + x.answer(s, 100, 0) + x.quota(s, 1, 2, 0) + x.between(s, 5, 500, true) + x.exact(s) + x.worst(s)
                + x.unsure(s, 0) + x.total(s, true) + x.bands(s, 3) + x.bar(s, 1, 9, true) + x.uneven(s, 100)
                + x.sum(s) + x.sorted(s, 99) + x.miss(s, 99) + x.missed(s) + x.heavy(s, 9, 0) + x.rounds(s)
                + x.coarse(s, 5) + x.spread(s, 99) + x.finest(s) + x.push(s, 9) + x.compress(s) + x.every(s, 5);
        }
        sum += x.meets(0, 1, 100, 0) + x.apart(0, 1) + x.would(0, 1) + x.wins(0, 1, true) + x.whole(2)
            + x.overall(300, 0) + x.merge(0, 1) + x.idle(0) + x.clear(0) + x.error(40) + x.about(4);
        return sum;
    }

    public static void main(String[] args) {
        int[][] text = Due.fives(TEXT);
        made();
        GapRows first = new GapRows();
        due.yes("calls answer", allCalls(first, text) != 0);
        long before = made();
        GapRows x = new GapRows();
        long constructor = made() - before;
        due.yes("a new object: " + constructor + " bytes", constructor < 14_000 * 4);
        allCalls(x, text);
        before = made();
        for (int i = 0; i < 4; i++) {
            allCalls(x, text);
        }
        long later = made() - before;
        due.yes("later calls: " + later + " bytes", later < 1000);
        due.finish();
    }
}
