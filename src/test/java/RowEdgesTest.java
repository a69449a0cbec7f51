/** Term II and promises 6 to 11 and 36 to 48 at their edges, with answers worked out by hand. */
public final class RowEdgesTest {
    private static final Due due = new Due();

    /** One STREAM with this ERROR and EVERY, and no VALUES. */
    private static GapRows empty(int error, int every) {
        return Due.of("ranks error " + error + ";stream a every " + every);
    }

    /** One STREAM that is COMPRESSED by calls alone: those VALUES are PUSHED. */
    private static GapRows pushed(int error, int... values) {
        GapRows x = empty(error, 60);
        for (int v : values) {
            x.push(0, v);
        }
        return x;
    }

    /** VALUES 1, 2, 3 and so on are PUSHED. */
    private static void rise(GapRows x, int s, int count) {
        for (int v = 1; v <= count; v++) {
            x.push(s, v);
        }
    }

    /**
     * 1 (1, 0), 2 (1, 1), 3 (2, 0), 10 (1, 2), 20 (1, 2), 25 (1, 2), 32 (3, 0); N 10, ERROR 2 and so BOUND 10,
     * BANDS 4, 3, 4, 3, 3, 3, 4.
     */
    private static GapRows withFamilies() {
        GapRows x = pushed(4, 1, 2, 3, 30, 31, 32);
        x.compress(0);
        x.error(2);
        for (int v : new int[] {20, 10, 25, 2}) {
            x.push(0, v);
        }
        due.row(x, 0, 1, 1, 0, 2, 1, 1, 3, 2, 0, 10, 1, 2, 20, 1, 2, 25, 1, 2, 32, 3, 0);
        return x;
    }

    private static void boundOfN() {
        due.by("BOUND of N: 2 N by ERROR, cut, 1 at least");
        int[] errors = {2, 3, 39, 40};
        for (int error : errors) {
            GapRows x = empty(error, 60);
            for (int n = 0; n <= 130; n++) {
                int bound = 2 * n / error;
                due.told(x, "BOUND of " + n + " by " + error, x.stream(0, 2), bound < 1 ? 1 : bound);
                x.push(0, n);
            }
        }
        // N, ERROR, BOUND: 1 less and just so much
        int[][] edges = {{0, 2, 1}, {1, 2, 1}, {1, 40, 1}, {19, 40, 1}, {20, 40, 1}, {39, 40, 1}, {40, 40, 2},
            {59, 40, 2}, {60, 40, 3}, {58, 39, 2}, {59, 39, 3}, {199, 2, 199}, {200, 3, 133}, {200, 39, 10}};
        for (int[] e : edges) {
            GapRows x = empty(e[1], 60);
            if (e[0] > 0) {
                x.draw(0, e[0], 1000);
            }
            due.told(x, "BOUND of " + e[0] + " by " + e[1], x.stream(0, 2), e[2]);
        }
        int[][] full = {{2, 1000}, {3, 666}, {7, 285}, {39, 51}, {40, 50}};
        for (int[] f : full) {
            GapRows x = empty(f[0], 60);
            for (int i = 0; i < 5; i++) {
                x.draw(0, 200, 1000);
            }
            due.told(x, "BOUND of 1,000 by " + f[0], x.stream(0, 2), f[1]);
        }
    }

    private static void whereAValueComes() {
        due.by("PUSH: right ahead of the first one with a VALUE above it, or behind all");
        GapRows x = pushed(2, 5, 5, 9, 1);
        x.compress(0);
        // N 4, BOUND 4: 5 and 5 went
        due.row(x, 0, 1, 1, 0, 9, 3, 0);
        x.push(0, 5);
        // GAP and SPREAD of 9 together, less 1
        due.row(x, 0, 1, 1, 0, 5, 1, 2, 9, 3, 0);
        x.push(0, 5);
        // the like one stays ahead of it; 9 is still the one behind
        due.row(x, 0, 1, 1, 0, 5, 1, 2, 5, 1, 2, 9, 3, 0);
        x.push(0, 4);
        due.row(x, 0, 1, 1, 0, 4, 1, 2, 5, 1, 2, 5, 1, 2, 9, 3, 0);
        x.push(0, 1);
        due.row(x, 0, 1, 1, 0, 1, 1, 2, 4, 1, 2, 5, 1, 2, 5, 1, 2, 9, 3, 0);
        due.by("PUSH: SPREAD is 0, if it is the first or the last one then");
        x.push(0, 0);
        x.push(0, 9);
        x.push(0, 999);
        due.row(x, 0, 0, 1, 0, 1, 1, 0, 1, 1, 2, 4, 1, 2, 5, 1, 2, 5, 1, 2, 9, 3, 0, 9, 1, 0, 999, 1, 0);
        x.push(0, 8);
        due.told(x, "SPREAD of 8", x.tuple(0, 6, 2), 2);
        x.push(0, 998);
        due.told(x, "SPREAD of 998 ahead of a GAP of 1", x.tuple(0, 9, 2), 0);
        x = pushed(2, 0);
        due.row(x, 0, 0, 1, 0);
        x = pushed(2, 999, 0, 999, 0);
        due.row(x, 0, 0, 1, 0, 0, 1, 0, 999, 1, 0, 999, 1, 0);
    }

    private static void spreadOfOneToCome() {
        due.by("spread: SPREAD of the TUPLE of a VALUE, were it PUSHED now");
        GapRows x = empty(2, 60);
        due.told(x, "spread(0, 0) of nothing", x.spread(0, 0), 0);
        due.told(x, "spread(0, 999) of nothing", x.spread(0, 999), 0);
        x = pushed(2, 5, 5, 9, 1);
        x.compress(0);
        x.push(0, 5);
        // 1 (1, 0), 5 (1, 2), 9 (3, 0)
        int[][] spreads = {{0, 0}, {1, 2}, {4, 2}, {5, 2}, {8, 2}, {9, 0}, {10, 0}, {999, 0}};
        for (int[] s : spreads) {
            due.told(x, "spread(0, " + s[0] + ")", x.spread(0, s[0]), s[1]);
        }
        due.row(x, 0, 1, 1, 0, 5, 1, 2, 9, 3, 0);
        due.told(x, "PUSHES since", x.stream(0, 4), 1);
        due.by("spread: also if the ROW were COMPRESSED by that PUSH");
        x.every(0, 2);
        due.told(x, "spread(0, 7)", x.spread(0, 7), 2);
    }

    private static void asManyAsEvery() {
        due.by("behind as many PUSHES as EVERY the ROW is COMPRESSED");
        for (int every : new int[] {1, 2, 59, 60}) {
            GapRows x = empty(40, every);
            for (int n = 1; n <= 125; n++) {
                x.push(0, n);
                due.same("PUSHES since, EVERY " + every + ", N " + n, x.stream(0, 4), n % every);
                due.same("COMPRESSIONS, EVERY " + every + ", N " + n, x.stream(0, 5), n / every);
            }
        }
        due.by("(or the beginning; those of the TEXT, of draw(), too)");
        GapRows x = Due.of("ranks error 40;stream a every 9;push a 1 2 3;push a 4 5");
        due.same("PUSHES since", x.stream(0, 4), 5);
        x.draw(0, 3, 10);
        due.same("PUSHES since", x.stream(0, 4), 8);
        due.same("COMPRESSIONS", x.stream(0, 5), 0);
        x.push(0, 1);
        due.same("PUSHES since", x.stream(0, 4), 0);
        due.same("COMPRESSIONS", x.stream(0, 5), 1);
        x.draw(0, 20, 10);
        due.same("PUSHES since", x.stream(0, 4), 2);
        due.same("COMPRESSIONS", x.stream(0, 5), 3);
        x = Due.of("ranks error 40;stream a every 2;push a 1 2 3 4 5");
        due.same("COMPRESSIONS by a TEXT", x.stream(0, 5), 2);
        due.same("PUSHES since", x.stream(0, 4), 1);
        due.by("a PUSH that is refused is none");
        x.push(0, 1000);
        x.push(0, -1);
        x.draw(0, 201, 5);
        due.same("PUSHES since", x.stream(0, 4), 1);
        due.by("since the latest COMPRESSION, also one by compress()");
        x = empty(40, 3);
        x.push(0, 1);
        x.push(0, 1);
        x.compress(0);
        due.same("PUSHES since", x.stream(0, 4), 0);
        x.push(0, 1);
        x.push(0, 1);
        due.same("COMPRESSIONS", x.stream(0, 5), 1);
        x.push(0, 1);
        due.same("COMPRESSIONS", x.stream(0, 5), 2);
    }

    private static void counted() {
        due.by("each COMPRESSION is counted, also of an empty ROW, or if nothing goes");
        GapRows x = empty(2, 60);
        for (int i = 1; i <= 3; i++) {
            due.told(x, "compress(0) of nothing", x.compress(0), 0);
            due.told(x, "COMPRESSIONS", x.stream(0, 5), i);
        }
        x.push(0, 5);
        due.told(x, "compress(0) of one", x.compress(0), 0);
        x.push(0, 5);
        due.told(x, "compress(0) of two", x.compress(0), 0);
        due.told(x, "COMPRESSIONS", x.stream(0, 5), 5);
        due.told(x, "TUPLES", x.stream(0, 1), 2);
        x.push(0, 5);
        due.told(x, "compress(0) of three: the middle one goes", x.compress(0), 1);
        due.row(x, 0, 5, 1, 0, 5, 2, 0);
        due.told(x, "compress(0) again", x.compress(0), 0);
        due.told(x, "COMPRESSIONS", x.stream(0, 5), 7);
        due.told(x, "COMPRESSIONS of all", x.about(4), 7);
        due.by("what would be COMPRESSED isn't counted");
        x.coarse(0, 2);
        x.rounds(0);
        x.whole(1);
        x.goes(0, 1);
        due.told(x, "COMPRESSIONS", x.stream(0, 5), 7);
    }

    /** All of them, by the words of the document. */
    private static void everyBand() {
        due.by("BAND: the least k, 0 on, for which d is above b less 2 to k less (b mod 2 to k)");
        GapRows x = new GapRows();
        int calls = 0;
        for (int b = 1; b <= 1000; b++) {
            for (int d = 0; d <= 999; d++) {
                int k = 0;
                int power = 1;
                while (d <= b - power - b % power) {
                    k++;
                    power *= 2;
                }
                if (++calls > 500) {
                    calls = 0;
                    x = new GapRows();
                }
                due.same("band(" + d + ", " + b + ")", x.band(d, b), k);
            }
        }
        due.told(x, "band(0, 1)", x.band(0, 1), 1);
        due.told(x, "band(1, 1)", x.band(1, 1), 0);
        due.told(x, "band(999, 1000)", x.band(999, 1000), 1);
        due.told(x, "band(0, 1000)", x.band(0, 1000), 10);
    }

    private static void families() {
        due.by("FAMILY: those right ahead of it, one by one, as long as their BAND is less");
        GapRows x = withFamilies();
        int[] bands = {4, 3, 4, 3, 3, 3, 4};
        int[] families = {1, 1, 2, 1, 1, 1, 4};
        for (int i = 0; i < 7; i++) {
            due.told(x, "BAND of " + i, x.tuple(0, i, 5), bands[i]);
            due.told(x, "FAMILY of " + i, x.tuple(0, i, 6), families[i]);
        }
        due.by("FAMILY: they aren't the first of the ROW");
        x = pushed(2, 5);
        due.told(x, "FAMILY of a TUPLE alone", x.tuple(0, 0, 6), 1);
        x.push(0, 6);
        due.told(x, "FAMILY of the second", x.tuple(0, 1, 6), 1);
        due.by("bands: how many TUPLES have a BAND k (0 .. 12)");
        x = withFamilies();
        for (int k = 0; k <= 12; k++) {
            due.told(x, "bands(0, " + k + ")", x.bands(0, k), k == 3 ? 4 : k == 4 ? 3 : 0);
        }
    }

    private static void whatCouldGo() {
        due.by("goes: also the first, the last one: 0");
        GapRows x = pushed(2, 5);
        due.told(x, "goes(0, 0) of one", x.goes(0, 0), 0);
        x.push(0, 6);
        due.told(x, "goes(0, 0) of two", x.goes(0, 0), 0);
        due.told(x, "goes(0, 1) of two", x.goes(0, 1), 0);
        x.push(0, 7);
        due.told(x, "goes(0, 0) of three", x.goes(0, 0), 0);
        due.told(x, "goes(0, 1) of three", x.goes(0, 1), 1);
        due.told(x, "goes(0, 2) of three", x.goes(0, 2), 0);
        due.by("goes: BAND of it is no more than that of the one behind it");
        x = withFamilies();
        int[] by2 = {0, 1, 0, 1, 1, 1, 0};
        for (int i = 0; i < 7; i++) {
            due.told(x, "goes(0, " + i + ") by 2", x.goes(0, i), by2[i]);
        }
        due.by("goes: GAPS of its FAMILY, GAP and SPREAD of the one behind it are BOUND at most");
        due.told(x, "error(6)", x.error(6), 2);
        // BOUND 3: 2 goes by 1 and 2, 10 doesn't by 1, 1 and 2, 25 by 1 and 3
        int[] by6 = {0, 1, 0, 0, 0, 0, 0};
        for (int i = 0; i < 7; i++) {
            due.told(x, "goes(0, " + i + ") by 6", x.goes(0, i), by6[i]);
        }
        due.told(x, "error(5)", x.error(5), 6);
        // BOUND 4
        int[] by5 = {0, 1, 0, 1, 1, 1, 0};
        for (int i = 0; i < 7; i++) {
            due.told(x, "goes(0, " + i + ") by 5", x.goes(0, i), by5[i]);
        }
    }

    private static void compressions() {
        due.by("COMPRESSION: BOUND at most together");
        GapRows x = withFamilies();
        due.told(x, "compress(0) by 2", x.compress(0), 5);
        due.row(x, 0, 1, 1, 0, 32, 9, 0);
        x = withFamilies();
        x.error(3);
        // BOUND 6: 25, 20 and 10 go; 3 with 2 has 3 and 6; 2 goes into 3
        due.told(x, "compress(0) by 3", x.compress(0), 4);
        due.row(x, 0, 1, 1, 0, 3, 3, 0, 32, 6, 0);
        x = withFamilies();
        x.error(4);
        // BOUND 5: 25 and 20 go, 10 doesn't
        due.told(x, "compress(0) by 4", x.compress(0), 3);
        due.row(x, 0, 1, 1, 0, 3, 3, 0, 10, 1, 2, 32, 5, 0);
        x = withFamilies();
        x.error(5);
        // BOUND 4: 25 goes, 20 doesn't, 10 goes into 20
        due.told(x, "compress(0) by 5", x.compress(0), 3);
        due.row(x, 0, 1, 1, 0, 3, 3, 0, 20, 2, 2, 32, 4, 0);
        x = withFamilies();
        x.error(6);
        // BOUND 3: 2 alone goes
        due.told(x, "compress(0) by 6", x.compress(0), 1);
        due.row(x, 0, 1, 1, 0, 3, 3, 0, 10, 1, 2, 20, 1, 2, 25, 1, 2, 32, 3, 0);
        due.by("COMPRESSION: a BAND that is more stays, though it would fit");
        x = pushed(4, 3, 4, 1, 9);
        x.compress(0);
        x.push(0, 7);
        x.push(0, 5);
        due.row(x, 0, 1, 1, 0, 3, 1, 0, 5, 1, 1, 7, 1, 1, 9, 2, 0);
        // BOUND 3: 7 goes, 5 doesn't (1 and 3), 3 would by 1, 1 and 1, but for its BAND
        due.told(x, "compress(0)", x.compress(0), 1);
        due.row(x, 0, 1, 1, 0, 3, 1, 0, 5, 1, 1, 9, 3, 0);
        due.by("COMPRESSION: its FAMILY goes; it goes on with the one ahead of what went");
        x = pushed(2, 7, 3, 2);
        x.compress(0);
        x.push(0, 4);
        x.push(0, 3);
        x.push(0, 7);
        due.row(x, 0, 2, 1, 0, 3, 1, 1, 4, 1, 1, 7, 2, 0, 7, 1, 0);
        due.told(x, "FAMILY", x.tuple(0, 3, 6), 3);
        due.told(x, "compress(0)", x.compress(0), 3);
        due.row(x, 0, 2, 1, 0, 7, 5, 0);
        due.by("COMPRESSION: a FAMILY that doesn't go as one may go by itself");
        x = pushed(2, 3, 6, 2);
        x.compress(0);
        x.push(0, 9);
        x.push(0, 5);
        due.row(x, 0, 2, 1, 0, 5, 1, 1, 6, 2, 0, 9, 1, 0);
        x.error(3);
        // BOUND 3: 6 with 5 has 3 and 1; 5 goes into 6
        due.told(x, "compress(0) by 3", x.compress(0), 1);
        due.row(x, 0, 2, 1, 0, 6, 3, 0, 9, 1, 0);
    }

    private static void shortRows() {
        due.by("COMPRESSION from the last but one on down to the second: short ROWS");
        GapRows x = empty(2, 60);
        int[] gone = {0, 0, 0, 1, 2, 3};
        for (int n = 0; n <= 5; n++) {
            x = empty(2, 60);
            rise(x, 0, n);
            due.told(x, "coarse of " + n, x.coarse(0, 2), n - gone[n]);
            due.told(x, "rounds of " + n, x.rounds(0), gone[n] > 0 ? 1 : 0);
            due.told(x, "TUPLES stay", x.stream(0, 1), n);
            due.told(x, "compress of " + n, x.compress(0), gone[n]);
            due.told(x, "rounds then", x.rounds(0), 0);
        }
        due.by("by BOUND 1 nothing goes");
        x = empty(40, 60);
        rise(x, 0, 39);
        due.told(x, "rounds(0)", x.rounds(0), 0);
        due.told(x, "compress(0)", x.compress(0), 0);
        // BOUND 2: from the back each second one goes, the first and the second stay
        x.push(0, 40);
        due.told(x, "rounds(0)", x.rounds(0), 1);
        due.told(x, "compress(0)", x.compress(0), 19);
    }

    private static void coarseByN() {
        due.by("coarse: n (2 to what ERROR is)");
        GapRows x = withFamilies();
        due.told(x, "coarse(0, 2)", x.coarse(0, 2), 2);
        due.refused(x, "coarse(0, 3) by ERROR 2", x.coarse(0, 3), 2);
        due.refused(x, "coarse(0, 1)", x.coarse(0, 1), 2);
        x.error(6);
        int[] tuples = {2, 3, 4, 4, 6};
        for (int n = 2; n <= 6; n++) {
            due.told(x, "coarse(0, " + n + ")", x.coarse(0, n), tuples[n - 2]);
        }
        due.refused(x, "coarse(0, 7)", x.coarse(0, 7), 2);
        due.told(x, "ERROR stays", x.about(0), 6);
        due.told(x, "TUPLES stay", x.stream(0, 1), 7);
        x = empty(40, 60);
        due.told(x, "coarse(0, 40)", x.coarse(0, 40), 0);
        due.refused(x, "coarse(0, 41)", x.coarse(0, 41), 2);
    }

    private static void finestAndError() {
        due.by("finest: the greatest ERROR (2 .. 40) by which no GAP and SPREAD would be above BOUND");
        GapRows x = empty(39, 60);
        rise(x, 0, 39);
        due.told(x, "finest(0) of GAPS of 1", x.finest(0), 40);
        x.compress(0);
        due.told(x, "GAP and SPREAD", x.stream(0, 8), 2);
        due.told(x, "finest(0): 78 by 39 is 2, 78 by 40 isn't", x.finest(0), 39);
        due.by("error: 5 (GAP and SPREAD of some TUPLE would be above BOUND)");
        due.refused(x, "error(40)", x.error(40), 5);
        due.told(x, "ERROR stays", x.about(0), 39);
        due.told(x, "error(39)", x.error(39), 39);
        x.push(0, 40);
        due.told(x, "finest(0): 80 by 40 is 2", x.finest(0), 40);
        due.told(x, "error(40)", x.error(40), 39);
        due.told(x, "ERROR", x.about(0), 40);
        x = pushed(2, 10, 20, 30, 40, 50, 60, 70, 80, 90, 100);
        x.compress(0);
        due.row(x, 0, 10, 1, 0, 100, 9, 0);
        due.refused(x, "finest(1)", x.finest(1), 1);
        due.told(x, "finest(0) of a GAP of 9 in 10", x.finest(0), 2);
        due.refused(x, "error(3)", x.error(3), 5);
        due.told(x, "error(2)", x.error(2), 2);
        x = empty(2, 60);
        due.told(x, "finest(0) without VALUES", x.finest(0), 40);
        due.told(x, "error(40) without VALUES", x.error(40), 2);
        due.by("error: is another one for all");
        for (int wide = 0; wide < 4; wide++) {
            x = Due.of("ranks error 2;stream a every 60;stream b every 60;stream c every 60;stream d every 60");
            for (int s = 0; s < 4; s++) {
                rise(x, s, 10);
            }
            x.compress(wide);
            due.refused(x, "error(3) by STREAM " + wide, x.error(3), 5);
            for (int s = 0; s < 4; s++) {
                due.told(x, "BOUND stays", x.stream(s, 2), 10);
                due.told(x, "finest(" + s + ")", x.finest(s), s == wide ? 2 : 40);
            }
            x.clear(wide);
            due.told(x, "error(3) then", x.error(3), 2);
            for (int s = 0; s < 4; s++) {
                due.told(x, "BOUND", x.stream(s, 2), s == wide ? 1 : 6);
            }
        }
        due.by("error: ROWS stay as they are, COMPRESSIONS too");
        x = withFamilies();
        x.error(6);
        due.told(x, "TUPLES", x.stream(0, 1), 7);
        due.told(x, "COMPRESSIONS", x.stream(0, 5), 1);
        due.told(x, "PUSHES since", x.stream(0, 4), 4);
    }

    private static GapRows two(int error) {
        return Due.of("ranks error " + error + ";stream a every 60;stream b every 50");
    }

    private static void mergeOfShortRows() {
        due.by("MERGE of short ROWS");
        GapRows x = two(2);
        due.told(x, "would(0, 1) of nothing", x.would(0, 1), 0);
        due.told(x, "merge(0, 1) of nothing", x.merge(0, 1), 0);
        due.told(x, "it is COMPRESSED then", x.stream(0, 5), 1);
        due.told(x, "COMPRESSIONS of the other", x.stream(1, 5), 0);
        x.push(1, 7);
        due.told(x, "would(0, 1)", x.would(0, 1), 1);
        due.told(x, "merge(0, 1) into nothing", x.merge(0, 1), 1);
        due.row(x, 0, 7, 1, 0);
        due.row(x, 1);
        due.told(x, "merge(0, 1) of nothing into one", x.merge(0, 1), 1);
        due.row(x, 0, 7, 1, 0);
        x.push(1, 7);
        due.told(x, "merge(0, 1) of like ones", x.merge(0, 1), 2);
        due.row(x, 0, 7, 1, 0, 7, 1, 0);
        x.push(1, 3);
        // N 3, BOUND 3: the middle one goes
        due.told(x, "would(0, 1)", x.would(0, 1), 2);
        due.told(x, "merge(0, 1)", x.merge(0, 1), 2);
        due.row(x, 0, 3, 1, 0, 7, 2, 0);
        due.told(x, "merge(1, 0) into nothing", x.merge(1, 0), 2);
        due.row(x, 1, 3, 1, 0, 7, 2, 0);
        due.row(x, 0);
        due.by("MERGE of nothing: the ROW is COMPRESSED");
        x = two(2);
        rise(x, 0, 3);
        due.told(x, "would(0, 1)", x.would(0, 1), 2);
        due.told(x, "TUPLES stay", x.stream(0, 1), 3);
        due.told(x, "merge(0, 1)", x.merge(0, 1), 2);
        due.row(x, 0, 1, 1, 0, 3, 2, 0);
        due.told(x, "PUSHES since", x.stream(0, 4), 0);
    }

    /** 1 (1, 0), 6 (1, 0), 9 (2, 0) and 5 (1, 0), 7 (2, 0), last (2, 0) by ERROR 4. */
    private static GapRows twoRows(int last) {
        GapRows x = two(4);
        for (int v : new int[] {1, 6, 8, 9}) {
            x.push(0, v);
        }
        for (int v : new int[] {5, 7, 7, last, last}) {
            x.push(1, v);
        }
        x.compress(0);
        x.compress(1);
        due.row(x, 0, 1, 1, 0, 6, 1, 0, 9, 2, 0);
        due.row(x, 1, 5, 1, 0, 7, 2, 0, last, 2, 0);
        return x;
    }

    private static void mergedSpreads() {
        due.by("MERGE: SPREAD is more by GAP and SPREAD of the next TUPLE behind it of the other, less 1");
        // 1 (1, 0), 5 (1, 0), 6 (1, 1), 7 (2, 1), 8 (2, 1), 9 (2, 0) by BOUND 4: 8 goes, 7 doesn't, 6 goes into 7
        GapRows x = twoRows(8);
        due.told(x, "would(0, 1)", x.would(0, 1), 4);
        due.told(x, "merge(0, 1)", x.merge(0, 1), 4);
        due.row(x, 0, 1, 1, 0, 5, 1, 0, 7, 3, 1, 9, 4, 0);
        x = twoRows(8);
        due.told(x, "merge(1, 0)", x.merge(1, 0), 4);
        due.row(x, 1, 1, 1, 0, 5, 1, 0, 7, 3, 1, 9, 4, 0);
        due.by("MERGE: nothing without one");
        // the last one is of the second: 9 (2, 1), 12 (2, 0)
        x = twoRows(12);
        due.told(x, "merge(0, 1)", x.merge(0, 1), 4);
        due.row(x, 0, 1, 1, 0, 5, 1, 0, 7, 3, 1, 12, 4, 0);
        due.by("MERGE: N is that of both; PUSHES since are 0; EVERY, COMPRESSIONS of the first one stay");
        x = twoRows(8);
        x.push(0, 3);
        x.push(1, 3);
        x.push(1, 4);
        due.told(x, "merge(0, 1)", x.merge(0, 1) > 0 ? 1 : 0, 1);
        int[] into = {12, 60, 0, 2};
        int[] from = {0, 50, 0, 1};
        int[] whats = {0, 3, 4, 5};
        for (int i = 0; i < 4; i++) {
            due.told(x, "stream(0, " + whats[i] + ")", x.stream(0, whats[i]), into[i]);
            due.told(x, "stream(1, " + whats[i] + ")", x.stream(1, whats[i]), from[i]);
        }
        due.told(x, "sum(0)", x.sum(0), 1 + 6 + 8 + 9 + 5 + 7 + 7 + 8 + 8 + 3 + 3 + 4);
        due.told(x, "sum(1)", x.sum(1), 0);
        due.told(x, "unlike VALUES there", x.stream(1, 9), 0);
        due.by("MERGE: VALUES 0 and 999 of both");
        GapRows y = two(40);
        for (int v : new int[] {0, 0, 5, 999}) {
            y.push(0, v);
        }
        for (int v : new int[] {0, 999, 999}) {
            y.push(1, v);
        }
        due.told(y, "merge(0, 1)", y.merge(0, 1), 7);
        due.row(y, 0, 0, 1, 0, 0, 1, 0, 0, 1, 0, 5, 1, 0, 999, 1, 0, 999, 1, 0, 999, 1, 0);
        due.told(y, "times(0, 0)", y.times(0, 0), 3);
        due.told(y, "times(0, 999)", y.times(0, 999), 3);
        due.told(y, "times(1, 0)", y.times(1, 0), 0);
        due.told(y, "times(1, 999)", y.times(1, 999), 0);
        due.told(y, "sorted(0, 3)", y.sorted(0, 3), 0);
        due.told(y, "sorted(0, 4)", y.sorted(0, 4), 5);
        due.told(y, "unlike VALUES", y.stream(0, 9), 3);
        due.by("MERGE: the one that gave all takes PUSHES as a new one");
        x.push(1, 3);
        due.row(x, 1, 3, 1, 0);
        due.told(x, "PUSHES since", x.stream(1, 4), 1);
    }

    /** 1 (1, 0), 5 (2, 0), 9 (3, 0) and 5 (1, 0) by ERROR 4; both together have BOUND 3. */
    private static GapRows twoFives() {
        GapRows x = two(4);
        for (int v : new int[] {1, 5, 5, 5, 9, 9}) {
            x.push(0, v);
        }
        x.compress(0);
        due.row(x, 0, 1, 1, 0, 5, 2, 0, 9, 3, 0);
        x.push(1, 5);
        return x;
    }

    private static void likeValuesMerged() {
        due.by("MERGE: of like ones those of the other one first");
        GapRows x = twoFives();
        // the 5 that comes stands right ahead of 9: 2 more; nothing goes
        due.told(x, "would(0, 1)", x.would(0, 1), 4);
        due.told(x, "merge(0, 1)", x.merge(0, 1), 4);
        due.row(x, 0, 1, 1, 0, 5, 2, 0, 5, 1, 2, 9, 3, 0);
        x = twoFives();
        // the 5 that was there stands ahead of the other 5: 1 more; it goes into that
        due.told(x, "would(1, 0)", x.would(1, 0), 3);
        due.told(x, "merge(1, 0)", x.merge(1, 0), 3);
        due.row(x, 1, 1, 1, 0, 5, 3, 0, 9, 3, 0);
    }

    private static void clears() {
        due.by("clear: all VALUES are gone: how many there were");
        GapRows x = empty(4, 7);
        due.told(x, "clear(0) of nothing", x.clear(0), 0);
        rise(x, 0, 5);
        due.told(x, "clear(0)", x.clear(0), 5);
        int[] then = {0, 0, 1, 7, 0, 0, -2, -2, 0, 0};
        for (int what = 0; what <= 9; what++) {
            due.told(x, "stream(0, " + what + ")", x.stream(0, what), then[what]);
        }
        due.told(x, "clear(0) again", x.clear(0), 0);
        due.told(x, "times(0, 1)", x.times(0, 1), 0);
        due.same("idle(0)", x.idle(0), 0);
        due.by("clear: PUSHES since the latest COMPRESSION are 0");
        rise(x, 0, 6);
        due.told(x, "COMPRESSIONS", x.stream(0, 5), 0);
        x.push(0, 1);
        due.told(x, "COMPRESSIONS", x.stream(0, 5), 1);
        x.clear(0);
        due.told(x, "COMPRESSIONS stay", x.stream(0, 5), 1);
        due.told(x, "SEED stays", x.about(5), 1);
        x = two(4);
        rise(x, 0, 5);
        rise(x, 1, 4);
        due.told(x, "clear(1)", x.clear(1), 4);
        due.told(x, "the other one stays", x.stream(0, 0), 5);
    }

    private static void everies() {
        due.by("every: COMPRESSED at once, if PUSHES are so many");
        for (int n = 1; n <= 60; n++) {
            GapRows x = empty(2, 60);
            rise(x, 0, 5);
            due.told(x, "every(0, " + n + ")", x.every(0, n), n <= 5 ? 2 : 5);
            due.told(x, "EVERY", x.stream(0, 3), n);
            due.told(x, "PUSHES since", x.stream(0, 4), n <= 5 ? 0 : 5);
            due.told(x, "COMPRESSIONS", x.stream(0, 5), n <= 5 ? 1 : 0);
        }
        due.by("every: not without PUSHES");
        GapRows x = empty(2, 60);
        due.told(x, "every(0, 1) of nothing", x.every(0, 1), 0);
        due.told(x, "COMPRESSIONS", x.stream(0, 5), 0);
        rise(x, 0, 3);
        due.told(x, "COMPRESSIONS", x.stream(0, 5), 3);
        due.told(x, "every(0, 1)", x.every(0, 1), 2);
        due.told(x, "COMPRESSIONS", x.stream(0, 5), 3);
        x = two(2);
        due.told(x, "every(1, 9)", x.every(1, 9), 0);
        due.told(x, "EVERY of the other", x.stream(0, 3), 60);
    }

    private static void draws() {
        due.by("A DRAW of m: SEED becomes (75 times SEED and 74) mod 65,537; SEED mod m");
        for (int seed : new int[] {0, 1, 873, 874, 32768, 65535, 65536}) {
            for (int m : new int[] {1, 2, 999, 1000}) {
                GapRows x = empty(40, 60);
                due.yes("seed(" + seed + ")", x.seed(seed));
                due.told(x, "SEED", x.about(5), seed);
                long now = seed;
                long sum = 0;
                for (int i = 0; i < 60; i++) {
                    now = (75L * now + 74L) % 65537L;
                    sum += now % m;
                    x.draw(0, 1, m);
                    due.told(x, "SEED", x.about(5), now);
                    due.told(x, "sum(0)", x.sum(0), sum);
                }
            }
        }
        due.by("seed: SEED (0 .. 65,536)");
        GapRows x = new GapRows();
        int[] wrong = {Integer.MIN_VALUE, -1, 65537, Integer.MAX_VALUE};
        due.yes("seed(9) without TEXT", x.seed(9));
        Due.put(x, "ranks error 4;stream a every 9");
        due.told(x, "SEED (a new TEXT lets it be)", x.about(5), 9);
        for (int n : wrong) {
            due.yes("seed(" + n + ") is false", !x.seed(n));
            due.same("trouble()", x.trouble(), 2);
            due.same("where()", x.where(), GapRows.NONE);
            due.told(x, "SEED stays", x.about(5), 9);
        }
        due.by("SEED (1 at first)");
        due.told(empty(4, 9), "SEED", empty(4, 9).about(5), 1);
        due.by("draw: n (1 .. 200), each DRAWN of m (1 .. 1,000)");
        x = empty(40, 60);
        due.yes("draw(0, 200, 1000)", x.draw(0, 200, 1000) > 0);
        due.told(x, "N", x.stream(0, 0), 200);
        int[][] refused = {{0, 5}, {201, 5}, {5, 0}, {5, 1001}, {-1, 5}, {5, -1}, {Integer.MIN_VALUE, 5},
            {5, Integer.MIN_VALUE}, {Integer.MAX_VALUE, 5}, {5, Integer.MAX_VALUE}};
        int seed = x.about(5);
        for (int[] r : refused) {
            due.refused(x, "draw(0, " + r[0] + ", " + r[1] + ")", x.draw(0, r[0], r[1]), 2);
            due.told(x, "SEED stays", x.about(5), seed);
            due.told(x, "N stays", x.stream(0, 0), 200);
        }
    }

    private static void withoutATuple() {
        due.by("stream: 6 least VALUE, 7 greatest (-2 without), 8 (0 without)");
        GapRows x = empty(4, 9);
        due.told(x, "least", x.stream(0, 6), -2);
        due.told(x, "greatest", x.stream(0, 7), -2);
        due.told(x, "GAP and SPREAD", x.stream(0, 8), 0);
        due.told(x, "unlike", x.stream(0, 9), 0);
        x.push(0, 0);
        due.told(x, "least", x.stream(0, 6), 0);
        due.told(x, "greatest", x.stream(0, 7), 0);
        due.told(x, "GAP and SPREAD", x.stream(0, 8), 1);
        x.push(0, 999);
        x.push(0, 999);
        due.told(x, "greatest", x.stream(0, 7), 999);
        due.told(x, "unlike", x.stream(0, 9), 2);
        due.by("stream: 8 the greatest GAP and SPREAD together of a TUPLE");
        x = withFamilies();
        due.told(x, "stream(0, 8)", x.stream(0, 8), 3);
        x.compress(0);
        due.told(x, "stream(0, 8)", x.stream(0, 8), 9);
        due.by("check: of an empty ROW nothing is wrong");
        due.told(x, "check(0)", empty(4, 9).check(0) + x.check(0), 0);
    }

    private static void idles() {
        due.by("idle: the i-th STREAM, by numbers, without VALUES");
        String text = "ranks error 9;stream a every 1;stream b every 1;stream c every 1;stream d every 1";
        // each set of STREAMS with VALUES
        for (int set = 0; set < 16; set++) {
            GapRows x = Due.of(text);
            int count = 0;
            for (int s = 0; s < 4; s++) {
                if ((set >> s & 1) == 1) {
                    x.push(s, 5);
                }
            }
            for (int s = 0; s < 4; s++) {
                if ((set >> s & 1) == 0) {
                    due.same("idle(" + count + ") of set " + set, x.idle(count), s);
                    count++;
                }
            }
            for (int i : new int[] {Integer.MIN_VALUE, -1, count, count + 1, 4, Integer.MAX_VALUE}) {
                due.noIdle(x, i);
            }
        }
        due.by("idle: NoSuchElementException without a TEXT");
        for (int i : new int[] {Integer.MIN_VALUE, -1, 0, 1, Integer.MAX_VALUE}) {
            due.noIdle(new GapRows(), i);
        }
    }

    public static void main(String[] args) {
        boundOfN();
        whereAValueComes();
        spreadOfOneToCome();
        asManyAsEvery();
        counted();
        everyBand();
        families();
        whatCouldGo();
        compressions();
        shortRows();
        coarseByN();
        finestAndError();
        mergeOfShortRows();
        mergedSpreads();
        likeValuesMerged();
        clears();
        everies();
        draws();
        withoutATuple();
        idles();
        due.finish();
    }
}
