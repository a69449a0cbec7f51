import java.util.NoSuchElementException;

/** Everything full: 1,000 VALUES of a STREAM, 4 STREAMS, 512 calls of an object; and what comes behind them. */
public final class FullTest {
    private static final Due due = new Due();
    private static final String FOUR =
        "ranks error 40;stream a every 60;stream b every 59;stream c every 1;stream d every 7";

    /** Four STREAMS with so many VALUES each, DRAWN of 1,000. */
    private static GapRows filled(int... counts) {
        GapRows x = Due.of(FOUR);
        for (int s = 0; s < counts.length; s++) {
            for (int left = counts[s]; left > 0; left -= 200) {
                x.draw(s, Math.min(200, left), 1000);
            }
            due.told(x, "N of " + s, x.stream(s, 0), counts[s]);
        }
        return x;
    }

    private static int[] told(GapRows x, int s) {
        int[] told = new int[14];
        for (int what = 0; what <= 9; what++) {
            told[what] = x.stream(s, what);
        }
        told[10] = x.sum(s);
        told[11] = x.total(s, false);
        told[12] = x.total(s, true);
        told[13] = x.about(5);
        return told;
    }

    private static void stays(String call, int[] before, int[] after) {
        for (int i = 0; i < before.length; i++) {
            due.same(call + ": what is told by " + i + " stays", after[i], before[i]);
        }
    }

    private static void pushes() {
        due.by("No STREAM has more than 1,000 VALUES: push");
        for (int s = 0; s < 4; s++) {
            int[] counts = new int[4];
            counts[s] = 999;
            GapRows x = filled(counts);
            due.yes("the 1,000th VALUE is taken", x.push(s, 0) > 0);
            due.told(x, "N", x.stream(s, 0), 1000);
            int[] before = told(x, s);
            for (int v : new int[] {0, 500, 999}) {
                due.refused(x, "push(s, " + v + ") of 1,001", x.push(s, v), 3);
            }
            for (int v : new int[] {Integer.MIN_VALUE, -1, 1000, Integer.MAX_VALUE}) {
                due.refused(x, "push(s, " + v + ") of 1,001", x.push(s, v), 2);
            }
            due.refused(x, "push(4, 1) of 1,001", x.push(4, 1), 1);
            stays("push", before, told(x, s));
            due.told(x, "check(s)", x.check(s), 0);
            due.told(x, "clear(s)", x.clear(s), 1000);
            due.told(x, "push(s, 5) then", x.push(s, 5), 1);
        }
    }

    private static void draws() {
        due.by("draw: 3 (none is, if not all)");
        GapRows x = filled(800);
        due.yes("up to 1,000", x.draw(0, 200, 7) > 0);
        due.told(x, "N", x.stream(0, 0), 1000);
        x = filled(801);
        int[] before = told(x, 0);
        due.refused(x, "draw(0, 200, 7) of 1,001", x.draw(0, 200, 7), 3);
        due.refused(x, "draw(0, 200, 1000) of 1,001", x.draw(0, 200, 1000), 3);
        due.refused(x, "draw(0, 201, 7)", x.draw(0, 201, 7), 2);
        due.refused(x, "draw(0, 200, 1001)", x.draw(0, 200, 1001), 2);
        due.refused(x, "draw(0, 200, 0)", x.draw(0, 200, 0), 2);
        stays("draw", before, told(x, 0));
        due.yes("draw(0, 199, 7)", x.draw(0, 199, 7) > 0);
        due.told(x, "N", x.stream(0, 0), 1000);
        before = told(x, 0);
        due.refused(x, "draw(0, 1, 1) of 1,001", x.draw(0, 1, 1), 3);
        stays("draw", before, told(x, 0));
        x = filled(999);
        due.refused(x, "draw(0, 2, 1) of 1,001", x.draw(0, 2, 1), 3);
        due.yes("draw(0, 1, 1)", x.draw(0, 1, 1) > 0);
    }

    private static void merges() {
        due.by("would, merge: 3, if both have more than 1,000 together");
        int[][] fits = {{500, 500}, {1000, 0}, {0, 1000}, {999, 1}, {1, 999}};
        for (int[] f : fits) {
            GapRows x = filled(f);
            int would = x.would(0, 1);
            due.yes("would(0, 1)", would > 0);
            due.told(x, "merge(0, 1)", x.merge(0, 1), would);
            due.told(x, "N of both", x.stream(0, 0), 1000);
            due.told(x, "N of the other", x.stream(1, 0), 0);
            due.told(x, "check(0)", x.check(0), 0);
            due.refused(x, "push(0, 1)", x.push(0, 1), 3);
            due.told(x, "merge(1, 0) back", x.merge(1, 0) > 0 ? 1 : 0, 1);
            due.told(x, "N", x.stream(1, 0), 1000);
        }
        int[][] tooMany = {{500, 501}, {501, 500}, {1000, 1}, {1, 1000}, {1000, 1000}};
        for (int[] m : tooMany) {
            GapRows x = filled(m);
            int[] first = told(x, 0);
            int[] second = told(x, 1);
            due.refused(x, "would(0, 1)", x.would(0, 1), 3);
            due.refused(x, "merge(0, 1)", x.merge(0, 1), 3);
            due.refused(x, "merge(1, 0)", x.merge(1, 0), 3);
            due.refused(x, "merge(0, 0)", x.merge(0, 0), 1);
            due.refused(x, "merge(0, 4)", x.merge(0, 4), 1);
            stays("merge", first, told(x, 0));
            stays("merge", second, told(x, 1));
        }
    }

    private static void wholes() {
        due.by("whole, overall: 3 (more than 1,000)");
        int[][] fits = {{250, 250, 250, 250}, {1000, 0, 0, 0}, {0, 0, 0, 1000}, {0, 999, 0, 1}};
        for (int[] f : fits) {
            GapRows x = filled(f);
            due.told(x, "whole(0)", x.whole(0), 1000);
            due.yes("whole(1)", x.whole(1) > 0);
            due.yes("whole(2)", x.whole(2) <= 25);
            due.told(x, "overall(1, 1)", x.overall(1, 1), 0);
            due.told(x, "overall(1000, 1)", x.overall(1000, 1), 0);
            due.refused(x, "overall(0, 1)", x.overall(0, 1), 2);
            due.refused(x, "overall(1001, 1)", x.overall(1001, 1), 2);
        }
        int[][] tooMany = {{250, 250, 250, 251}, {1000, 0, 0, 1}, {1, 0, 0, 1000}, {1000, 1000, 1000, 1000}};
        for (int[] m : tooMany) {
            GapRows x = filled(m);
            for (int what = 0; what <= 2; what++) {
                due.refused(x, "whole(" + what + ")", x.whole(what), 3);
            }
            due.refused(x, "whole(3)", x.whole(3), 1);
            due.refused(x, "overall(1, 0)", x.overall(1, 0), 3);
            due.refused(x, "overall(0, 0)", x.overall(0, 0), 3);
            due.refused(x, "overall(1, 2)", x.overall(1, 2), 1);
        }
    }

    /** A place beyond all and each edge of what a full object tells. */
    private static void allFull() {
        due.by("4 STREAMS of 1,000 VALUES");
        GapRows x = filled(1000, 1000, 1000, 1000);
        due.told(x, "VALUES of all", x.about(2), 4000);
        int tuples = 0;
        int compressions = 0;
        for (int s = 0; s < 4; s++) {
            due.told(x, "check(" + s + ")", x.check(s), 0);
            due.told(x, "BOUND", x.stream(s, 2), 50);
            due.yes("worst(" + s + ")", x.worst(s) <= 25);
            due.told(x, "answer(s, 1000, 1)", x.answer(s, 1000, 1), 0);
            due.told(x, "sorted(s, 1000)", x.sorted(s, 1000), x.stream(s, 7));
            due.told(x, "sorted(s, 1)", x.sorted(s, 1), x.stream(s, 6));
            due.refused(x, "answer(s, 1001, 0)", x.answer(s, 1001, 0), 2);
            due.refused(x, "sorted(s, 1001)", x.sorted(s, 1001), 2);
            due.told(x, "rank(s, 999, true)", x.rank(s, 999, true), 1000);
            due.yes("total", x.total(s, false) <= x.sum(s) && x.sum(s) <= x.total(s, true));
            tuples += x.stream(s, 1);
            compressions += x.stream(s, 5);
        }
        due.told(x, "TUPLES of all", x.about(3), tuples);
        due.told(x, "COMPRESSIONS of all", x.about(4), compressions);
        due.told(x, "COMPRESSIONS", compressions, 1000 / 60 + 1000 / 59 + 1000 + 1000 / 7);
        for (int s = 0; s < 4; s++) {
            due.noIdle(x, s);
        }
        due.by("a new TEXT: all STREAMS begin anew");
        due.told(x, "ranks", Due.put(x, FOUR), 4);
        due.told(x, "VALUES of all", x.about(2), 0);
        due.told(x, "TUPLES of all", x.about(3), 0);
        due.told(x, "COMPRESSIONS of all", x.about(4), 0);
        due.same("idle(3)", x.idle(3), 3);
    }

    private static void greatestBands() {
        due.by("bands: k (0 .. 12), by the greatest BOUND there is");
        GapRows x = Due.of("ranks error 2;stream a every 60");
        for (int i = 0; i < 5; i++) {
            x.draw(0, 200, 1000);
        }
        due.told(x, "BOUND", x.stream(0, 2), 1000);
        due.yes("SPREAD 0 has BAND 10", x.bands(0, 10) >= 2);
        int sum = 0;
        for (int k = 0; k <= 12; k++) {
            sum += x.bands(0, k);
        }
        due.told(x, "TUPLES", x.stream(0, 1), sum);
        due.told(x, "bands(0, 0)", x.bands(0, 0), 0);
        due.told(x, "bands(0, 11)", x.bands(0, 11), 0);
        due.told(x, "bands(0, 12)", x.bands(0, 12), 0);
        due.refused(x, "bands(0, 13)", x.bands(0, 13), 2);
        due.by("bands by BOUND 1");
        x = Due.of("ranks error 40;stream a every 60;push a 1 2 3 4 5");
        due.told(x, "bands(0, 1)", x.bands(0, 1), 5);
        due.told(x, "bands(0, 0)", x.bands(0, 0), 0);
    }

    private static void manyCalls() {
        due.by("An object is used for at most 512 calls");
        GapRows x = new GapRows();
        int calls = 0;
        String text = "ranks error 40;stream a every 60";
        for (int[] f : Due.fives(text)) {
            x.feed(f[0], f[1], f[2], f[3], f[4]);
            calls++;
        }
        due.same("ranks", x.ranks(text.length()), 1);
        calls++;
        int pushes = 0;
        for (; calls < 511; calls++) {
            due.yes("push", x.push(0, pushes % 1000) > 0);
            pushes++;
        }
        due.same("the 512th call", x.stream(0, 0), pushes);
        due.by("COMPRESSIONS of 512 calls are all counted");
        x = Due.of("ranks error 40;stream a every 1");
        for (int i = 0; i < 250; i++) {
            x.draw(0, 200, 3);
            x.clear(0);
        }
        due.told(x, "COMPRESSIONS", x.stream(0, 5), 50000);
        due.by("no later call throws or fails to end");
        for (int i = 0; i < 2000; i++) {
            laterCalls(x, i);
        }
    }

    private static void laterCalls(GapRows x, int i) {
        x.draw(i % 3 - 1, i % 203, i % 1003);
        x.push(0, i % 1002);
        x.missed(0);
        x.whole(i % 4);
        x.overall(i, 0);
        x.every(0, i % 62);
        x.error(i % 42);
        if (i % 25 == 0) {
            x.clear(0);
        }
        try {
            due.same("idle", x.idle(0), 0);
        } catch (NoSuchElementException e) {
            due.yes("no STREAM without VALUES", x.stream(0, 0) > 0);
        }
        x.feed(i, i, i, i, i);
        if (i % 30 == 29) {
            due.same("ranks", x.ranks(x.size()), GapRows.NONE);
        }
    }

    public static void main(String[] args) {
        pushes();
        draws();
        merges();
        wholes();
        allFull();
        greatestBands();
        manyCalls();
        due.finish();
    }
}
