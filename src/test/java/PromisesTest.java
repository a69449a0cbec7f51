/**
 * Each promise by itself, with answers worked out by hand.
 *
 * TEN told ten VALUES that rise, so each TUPLE has GAP 1 and SPREAD 0; BOUND is 20 by 5.
 * COMPRESSED (shortTen) its ROW is, as VALUE (GAP, SPREAD): 10 (1, 0), 20 (1, 0), 60 (4, 0), 100 (4, 0).
 * With 35 PUSHED then (withDoubt): 10 (1, 0), 20 (1, 0), 35 (1, 3), 60 (4, 0), 100 (4, 0); N 11, BOUND 22 by 5.
 */
public final class PromisesTest {
    private static final Due due = new Due();
    private static final String TEN =
        "ranks error 5;stream one every 60;stream two every 3;push one 10 20 30 40 50 60 70 80 90 100";

    private static GapRows ten() {
        return Due.of(TEN);
    }

    private static GapRows shortTen() {
        GapRows x = ten();
        due.told(x, "compress(0)", x.compress(0), 6);
        return x;
    }

    private static GapRows withDoubt() {
        GapRows x = shortTen();
        due.told(x, "push(0, 35)", x.push(0, 35), 5);
        return x;
    }

    private static GapRows withSecond() {
        GapRows x = shortTen();
        x.every(1, 60);
        x.push(1, 60);
        x.push(1, 15);
        x.push(1, 200);
        return x;
    }

    private static void promise1() {
        GapRows x = new GapRows();
        due.same("trouble() at first", x.trouble(), 0);
        due.same("fault() at first", x.fault(), 0);
        due.same("where() at first", x.where(), GapRows.NONE);
        due.same("size() at first", x.size(), 0);
        due.same("NONE", GapRows.NONE, -1);
        for (int what = 0; what <= 5; what++) {
            due.refused(x, "about(" + what + ") without TEXT", x.about(what), 1);
        }
        due.refused(x, "stream(0, 0) without TEXT", x.stream(0, 0), 1);
        due.refused(x, "whole(0) without TEXT", x.whole(0), 1);
        due.refused(x, "overall(1, 0) without TEXT", x.overall(1, 0), 1);
        due.refused(x, "error(99) without TEXT", x.error(99), 1);
        due.refused(x, "push(0, -1) without TEXT", x.push(0, -1), 1);
        due.told(x, "band(0, 4) without TEXT", x.band(0, 4), 3);
        due.yes("seed(0) without TEXT", x.seed(0));
        due.noIdle(x, 0);
    }

    private static void promises6and7() {
        GapRows x = ten();
        int[] all = {5, 2, 10, 10, 0, 1};
        for (int what = 0; what <= 5; what++) {
            due.told(x, "about(" + what + ")", x.about(what), all[what]);
        }
        due.refused(x, "about(6)", x.about(6), 1);
        due.refused(x, "about(-1)", x.about(-1), 1);
        int[] one = {10, 10, 4, 60, 10, 0, 10, 100, 1, 10};
        int[] two = {0, 0, 1, 3, 0, 0, -2, -2, 0, 0};
        for (int what = 0; what <= 9; what++) {
            due.told(x, "stream(0, " + what + ")", x.stream(0, what), one[what]);
            due.told(x, "stream(1, " + what + ")", x.stream(1, what), two[what]);
        }
        due.refused(x, "stream(0, 10)", x.stream(0, 10), 1);
        due.refused(x, "stream(0, -1)", x.stream(0, -1), 1);
        due.refused(x, "stream(2, 0)", x.stream(2, 0), 1);
        due.refused(x, "stream(-1, 0)", x.stream(-1, 0), 1);
        x = withDoubt();
        x.push(0, 35);
        int[] doubt = {12, 6, 4, 60, 2, 1, 10, 100, 4, 11};
        for (int what = 0; what <= 9; what++) {
            due.told(x, "stream(0, " + what + ") then", x.stream(0, what), doubt[what]);
        }
        due.same("COMPRESSIONS of all", x.about(4), 1);
        x.compress(1);
        due.same("one of an empty ROW counts", x.about(4), 2);
    }

    private static void promises8and9() {
        GapRows x = withDoubt();
        due.row(x, 0, 10, 1, 0, 20, 1, 0, 35, 1, 3, 60, 4, 0, 100, 4, 0);
        int[] lows = {1, 2, 3, 7, 11};
        int[] highs = {1, 2, 6, 7, 11};
        int[] bands = {3, 3, 1, 3, 3};
        int[] families = {1, 1, 1, 2, 1};
        for (int i = 0; i < 5; i++) {
            due.told(x, "LOW", x.tuple(0, i, 3), lows[i]);
            due.told(x, "HIGH", x.tuple(0, i, 4), highs[i]);
            due.told(x, "BAND", x.tuple(0, i, 5), bands[i]);
            due.told(x, "FAMILY", x.tuple(0, i, 6), families[i]);
            due.told(x, "goes(0, " + i + ")", x.goes(0, i), 0);
        }
        due.refused(x, "tuple(0, 5, 0)", x.tuple(0, 5, 0), 1);
        due.refused(x, "tuple(0, -1, 0)", x.tuple(0, -1, 0), 1);
        due.refused(x, "tuple(0, 0, 7)", x.tuple(0, 0, 7), 1);
        due.refused(x, "tuple(0, 0, -1)", x.tuple(0, 0, -1), 1);
        due.refused(x, "tuple(1, 0, 0)", x.tuple(1, 0, 0), 1);
        due.refused(x, "tuple(2, 0, 0)", x.tuple(2, 0, 0), 1);
        due.refused(x, "goes(0, 5)", x.goes(0, 5), 1);
        due.refused(x, "goes(0, -1)", x.goes(0, -1), 1);
        due.refused(x, "goes(2, 0)", x.goes(2, 0), 1);
        x = ten();
        for (int i = 0; i < 10; i++) {
            due.told(x, "goes(0, " + i + ") of ten", x.goes(0, i), i == 0 || i == 9 ? 0 : 1);
        }
        x.error(2);
        x.push(0, 55);
        due.told(x, "a FAMILY isn't the first", x.tuple(0, 1, 6), 1);
        x = Due.of("ranks error 2;stream a every 60;push a 1 9 5");
        // 1 (1, 0), 5 (1, 0), 9 (1, 0)
        x.compress(0);
        // BOUND 3: 5 goes, 9 has GAP 2; 4 comes with SPREAD 1, 2 with SPREAD 1
        x.push(0, 4);
        x.push(0, 2);
        due.row(x, 0, 1, 1, 0, 2, 1, 1, 4, 1, 1, 9, 2, 0);
        // BOUND 5: BAND of 1 is 2 (1 > 5 - 4 - 1), of 0 it is 3
        due.told(x, "FAMILY of the last", x.tuple(0, 3, 6), 3);
        due.told(x, "goes of the last", x.goes(0, 3), 0);
        due.told(x, "goes(0, 2)", x.goes(0, 2), 1);
        due.told(x, "goes(0, 1)", x.goes(0, 1), 1);
    }

    private static void promise10() {
        GapRows x = new GapRows();
        int[][] bands = {{0, 1, 1}, {1, 1, 0}, {999, 1, 0}, {0, 2, 2}, {1, 2, 1}, {2, 2, 0}, {1, 3, 1}, {2, 3, 1},
            {3, 3, 0}, {2, 4, 2}, {3, 4, 1}, {0, 4, 3}, {0, 1000, 10}, {1, 1000, 9}, {999, 1000, 1}, {488, 1000, 9},
            {512, 1000, 9}, {513, 1000, 8}, {0, 999, 10}, {7, 8, 1}, {8, 8, 0}, {4, 8, 3}, {5, 8, 2}};
        for (int[] b : bands) {
            due.told(x, "band(" + b[0] + ", " + b[1] + ")", x.band(b[0], b[1]), b[2]);
        }
        due.refused(x, "band(-1, 4)", x.band(-1, 4), 2);
        due.refused(x, "band(1000, 4)", x.band(1000, 4), 2);
        due.refused(x, "band(0, 0)", x.band(0, 0), 2);
        due.refused(x, "band(0, 1001)", x.band(0, 1001), 2);
    }

    private static void promise11() {
        GapRows x = withDoubt();
        due.told(x, "check(0)", x.check(0), 0);
        due.told(x, "check(1)", x.check(1), 0);
        due.refused(x, "check(2)", x.check(2), 1);
        due.refused(x, "check(-1)", x.check(-1), 1);
    }

    private static void promises12and13() {
        GapRows x = withDoubt();
        // OFF by TUPLE and place; of several the first
        int[] values = {10, 20, 20, 20, 35, 60, 60, 60, 60, 100, 100};
        int[] offs = {0, 0, 1, 2, 2, 1, 0, 1, 2, 1, 0};
        int[] which = {0, 1, 1, 1, 2, 3, 3, 3, 3, 4, 4};
        for (int r = 1; r <= 11; r++) {
            due.told(x, "answer(0, " + r + ", 0)", x.answer(0, r, 0), values[r - 1]);
            due.told(x, "answer(0, " + r + ", 1)", x.answer(0, r, 1), offs[r - 1]);
            due.told(x, "answer(0, " + r + ", 2)", x.answer(0, r, 2), which[r - 1]);
        }
        due.refused(x, "answer(0, 0, 0)", x.answer(0, 0, 0), 2);
        due.refused(x, "answer(0, 12, 0)", x.answer(0, 12, 0), 2);
        due.refused(x, "answer(0, 12, 3)", x.answer(0, 12, 3), 1);
        due.refused(x, "answer(0, 1, -1)", x.answer(0, 1, -1), 1);
        due.refused(x, "answer(2, 1, 0)", x.answer(2, 1, 0), 1);
        due.refused(x, "answer(1, 1, 0)", x.answer(1, 1, 0), 2);
        due.told(x, "quota(0, 0, 3, 2)", x.quota(0, 0, 3, 2), 1);
        due.told(x, "quota(0, 1, 3, 2)", x.quota(0, 1, 3, 2), 4);
        due.told(x, "quota(0, 1, 3, 0)", x.quota(0, 1, 3, 0), 20);
        due.told(x, "quota(0, 1, 3, 1)", x.quota(0, 1, 3, 1), 2);
        due.told(x, "quota(0, 2, 3, 2)", x.quota(0, 2, 3, 2), 8);
        due.told(x, "quota(0, 3, 3, 2)", x.quota(0, 3, 3, 2), 11);
        due.told(x, "quota(0, 1, 11, 2)", x.quota(0, 1, 11, 2), 1);
        due.told(x, "quota(0, 2, 11, 2)", x.quota(0, 2, 11, 2), 2);
        due.told(x, "quota(0, 1, 100, 0)", x.quota(0, 1, 100, 0), 10);
        due.told(x, "quota(0, 100, 100, 0)", x.quota(0, 100, 100, 0), 100);
        due.refused(x, "quota(0, 4, 3, 0)", x.quota(0, 4, 3, 0), 2);
        due.refused(x, "quota(0, -1, 3, 0)", x.quota(0, -1, 3, 0), 2);
        due.refused(x, "quota(0, 0, 0, 0)", x.quota(0, 0, 0, 0), 2);
        due.refused(x, "quota(0, 0, 101, 0)", x.quota(0, 0, 101, 0), 2);
        due.refused(x, "quota(0, 0, 0, 3)", x.quota(0, 0, 0, 3), 1);
        due.refused(x, "quota(2, 0, 0, 0)", x.quota(2, 0, 0, 0), 1);
        due.refused(x, "quota(1, 0, 1, 0)", x.quota(1, 0, 1, 0), 5);
        due.refused(x, "quota(1, 2, 1, 0)", x.quota(1, 2, 1, 0), 2);
    }

    private static void promises14and15() {
        GapRows x = withDoubt();
        int[][] ranks = {{0, 0, 0}, {9, 0, 0}, {10, 1, 1}, {19, 1, 1}, {20, 2, 5}, {34, 2, 5}, {35, 3, 6}, {59, 3, 6},
            {60, 7, 10}, {99, 7, 10}, {100, 11, 11}, {999, 11, 11}};
        for (int[] r : ranks) {
            due.told(x, "rank(0, " + r[0] + ", false)", x.rank(0, r[0], false), r[1]);
            due.told(x, "rank(0, " + r[0] + ", true)", x.rank(0, r[0], true), r[2]);
        }
        due.told(x, "rank(1, 5, false)", x.rank(1, 5, false), 0);
        due.told(x, "rank(1, 5, true)", x.rank(1, 5, true), 0);
        due.refused(x, "rank(0, -1, false)", x.rank(0, -1, false), 2);
        due.refused(x, "rank(0, 1000, true)", x.rank(0, 1000, true), 2);
        due.refused(x, "rank(2, 1000, true)", x.rank(2, 1000, true), 1);
        due.told(x, "between(0, 21, 60, false)", x.between(0, 21, 60, false), 2);
        due.told(x, "between(0, 21, 60, true)", x.between(0, 21, 60, true), 8);
        due.told(x, "between(0, 35, 35, false)", x.between(0, 35, 35, false), 0);
        due.told(x, "between(0, 35, 35, true)", x.between(0, 35, 35, true), 4);
        due.told(x, "between(0, 0, 999, false)", x.between(0, 0, 999, false), 11);
        due.told(x, "between(0, 0, 999, true)", x.between(0, 0, 999, true), 11);
        due.told(x, "between(0, 0, 0, true)", x.between(0, 0, 0, true), 0);
        due.told(x, "between(0, 10, 10, false)", x.between(0, 10, 10, false), 1);
        due.told(x, "between(1, 0, 999, true)", x.between(1, 0, 999, true), 0);
        due.refused(x, "between(0, 5, 4, true)", x.between(0, 5, 4, true), 2);
        due.refused(x, "between(0, -1, 4, true)", x.between(0, -1, 4, true), 2);
        due.refused(x, "between(0, 5, 1000, true)", x.between(0, 5, 1000, true), 2);
        due.refused(x, "between(2, 5, 4, true)", x.between(2, 5, 4, true), 1);
        GapRows y = Due.of("ranks error 2;stream a every 60;push a 0 0 3");
        due.told(y, "between(0, 0, 0, false)", y.between(0, 0, 0, false), 2);
        due.told(y, "between(0, 0, 0, true)", y.between(0, 0, 0, true), 2);
    }

    private static void promises16to20() {
        GapRows x = withDoubt();
        due.told(x, "exact(0)", x.exact(0), 4);
        due.told(x, "exact(1)", x.exact(1), 0);
        due.refused(x, "exact(2)", x.exact(2), 1);
        due.told(x, "worst(0)", x.worst(0), 2);
        due.told(x, "worst(1)", x.worst(1), -2);
        due.refused(x, "worst(-1)", x.worst(-1), 1);
        // FLOORS 10 20 20 20 20 35 60 60 60 60 100, CEILINGS 10 20 35 60 60 60 60 100 100 100 100
        int[] floors = {10, 20, 20, 20, 20, 35, 60, 60, 60, 60, 100};
        int[] ceilings = {10, 20, 35, 60, 60, 60, 60, 100, 100, 100, 100};
        for (int r = 1; r <= 11; r++) {
            due.told(x, "bounds(0, " + r + ", 0)", x.bounds(0, r, 0), floors[r - 1]);
            due.told(x, "bounds(0, " + r + ", 1)", x.bounds(0, r, 1), ceilings[r - 1]);
        }
        due.refused(x, "bounds(0, 0, 0)", x.bounds(0, 0, 0), 2);
        due.refused(x, "bounds(0, 12, 1)", x.bounds(0, 12, 1), 2);
        due.refused(x, "bounds(0, 12, 2)", x.bounds(0, 12, 2), 1);
        due.refused(x, "bounds(0, 1, -1)", x.bounds(0, 1, -1), 1);
        due.refused(x, "bounds(2, 1, 0)", x.bounds(2, 1, 0), 1);
        due.told(x, "unsure(0, 0)", x.unsure(0, 0), 7);
        due.told(x, "unsure(0, 1)", x.unsure(0, 1), 40);
        due.told(x, "unsure(1, 0)", x.unsure(1, 0), 0);
        due.told(x, "unsure(1, 1)", x.unsure(1, 1), 0);
        due.refused(x, "unsure(0, 2)", x.unsure(0, 2), 1);
        due.refused(x, "unsure(0, -1)", x.unsure(0, -1), 1);
        due.refused(x, "unsure(2, 0)", x.unsure(2, 0), 1);
        due.told(x, "total(0, false)", x.total(0, false), 465);
        due.told(x, "total(0, true)", x.total(0, true), 705);
        due.told(x, "total(1, true)", x.total(1, true), 0);
        due.refused(x, "total(2, true)", x.total(2, true), 1);
    }

    private static void promises21to23() {
        GapRows x = withDoubt();
        for (int k = 0; k <= 12; k++) {
            due.told(x, "bands(0, " + k + ")", x.bands(0, k), k == 3 ? 4 : k == 1 ? 1 : 0);
        }
        due.refused(x, "bands(0, 13)", x.bands(0, 13), 2);
        due.refused(x, "bands(0, -1)", x.bands(0, -1), 2);
        due.refused(x, "bands(2, 13)", x.bands(2, 13), 1);
        // QUOTAS of 3: 1, 4, 8, 11; ANSWERS 10, 20, 60, 100
        due.told(x, "bar(0, 0, 3, false)", x.bar(0, 0, 3, false), 1);
        due.told(x, "bar(0, 0, 3, true)", x.bar(0, 0, 3, true), 4);
        due.told(x, "bar(0, 1, 3, false)", x.bar(0, 1, 3, false), 2);
        due.told(x, "bar(0, 1, 3, true)", x.bar(0, 1, 3, true), 8);
        due.told(x, "bar(0, 2, 3, false)", x.bar(0, 2, 3, false), 1);
        due.told(x, "bar(0, 2, 3, true)", x.bar(0, 2, 3, true), 4);
        due.told(x, "bar(0, 0, 1, true)", x.bar(0, 0, 1, true), 10);
        due.refused(x, "bar(0, 3, 3, true)", x.bar(0, 3, 3, true), 2);
        due.refused(x, "bar(0, -1, 3, true)", x.bar(0, -1, 3, true), 2);
        due.refused(x, "bar(0, 0, 0, true)", x.bar(0, 0, 0, true), 2);
        due.refused(x, "bar(0, 0, 101, true)", x.bar(0, 0, 101, true), 2);
        due.refused(x, "bar(1, 0, 101, true)", x.bar(1, 0, 101, true), 2);
        due.refused(x, "bar(1, 0, 1, true)", x.bar(1, 0, 1, true), 5);
        due.refused(x, "bar(2, 0, 0, true)", x.bar(2, 0, 0, true), 1);
        due.told(x, "uneven(0, 3)", x.uneven(0, 3), 7);
        due.told(x, "uneven(0, 1)", x.uneven(0, 1), 0);
        due.refused(x, "uneven(0, 0)", x.uneven(0, 0), 2);
        due.refused(x, "uneven(0, 101)", x.uneven(0, 101), 2);
        due.refused(x, "uneven(1, 101)", x.uneven(1, 101), 2);
        due.refused(x, "uneven(1, 1)", x.uneven(1, 1), 5);
        due.refused(x, "uneven(2, 0)", x.uneven(2, 0), 1);
    }

    private static void promise24() {
        GapRows x = withDoubt();
        due.refused(x, "meets(0, 1, 3, 0)", x.meets(0, 1, 3, 0), 5);
        due.refused(x, "meets(1, 0, 3, 0)", x.meets(1, 0, 3, 0), 5);
        x.push(1, 5);
        x.push(1, 60);
        // QUOTAS of 3: of the first 1, 4, 8, 11 (10, 20, 60, 100), of the second 1, 1, 2, 2 (5, 5, 60, 60)
        due.told(x, "meets(0, 1, 3, 0)", x.meets(0, 1, 3, 0), 1);
        due.told(x, "meets(0, 1, 3, 1)", x.meets(0, 1, 3, 1), 0);
        due.told(x, "meets(0, 1, 3, 2)", x.meets(0, 1, 3, 2), 3);
        due.told(x, "meets(1, 0, 3, 1)", x.meets(1, 0, 3, 1), 3);
        due.told(x, "meets(1, 0, 100, 2)", x.meets(1, 0, 100, 2), 0);
        due.refused(x, "meets(0, 0, 3, 0)", x.meets(0, 0, 3, 0), 1);
        due.refused(x, "meets(0, 2, 3, 0)", x.meets(0, 2, 3, 0), 1);
        due.refused(x, "meets(-1, 0, 3, 0)", x.meets(-1, 0, 3, 0), 1);
        due.refused(x, "meets(0, 1, 0, 3)", x.meets(0, 1, 0, 3), 1);
        due.refused(x, "meets(0, 1, 3, -1)", x.meets(0, 1, 3, -1), 1);
        due.refused(x, "meets(0, 1, 0, 0)", x.meets(0, 1, 0, 0), 2);
        due.refused(x, "meets(0, 1, 101, 0)", x.meets(0, 1, 101, 0), 2);
    }

    private static void promises25to29() {
        GapRows x = withDoubt();
        due.told(x, "sum(0)", x.sum(0), 585);
        due.told(x, "sum(1)", x.sum(1), 0);
        due.refused(x, "sum(2)", x.sum(2), 1);
        int[] sorted = {10, 20, 30, 35, 40, 50, 60, 70, 80, 90, 100};
        // ANSWERS 10 20 20 20 35 60 60 60 60 100 100, each VALUE at one place
        int[] misses = {0, 0, 1, 2, 1, 1, 0, 1, 2, 1, 0};
        for (int r = 1; r <= 11; r++) {
            due.told(x, "sorted(0, " + r + ")", x.sorted(0, r), sorted[r - 1]);
            due.told(x, "miss(0, " + r + ")", x.miss(0, r), misses[r - 1]);
        }
        due.refused(x, "sorted(0, 0)", x.sorted(0, 0), 2);
        due.refused(x, "sorted(0, 12)", x.sorted(0, 12), 2);
        due.refused(x, "sorted(2, 12)", x.sorted(2, 12), 1);
        due.refused(x, "sorted(1, 1)", x.sorted(1, 1), 2);
        due.refused(x, "miss(0, 0)", x.miss(0, 0), 2);
        due.refused(x, "miss(0, 12)", x.miss(0, 12), 2);
        due.refused(x, "miss(-1, 12)", x.miss(-1, 12), 1);
        due.told(x, "missed(0)", x.missed(0), 2);
        due.told(x, "missed(1)", x.missed(1), -2);
        due.refused(x, "missed(2)", x.missed(2), 1);
        x.push(0, 35);
        due.told(x, "times(0, 35)", x.times(0, 35), 2);
        due.told(x, "times(0, 40) of a TUPLE that went", x.times(0, 40), 1);
        due.told(x, "times(0, 41)", x.times(0, 41), 0);
        due.told(x, "times(0, 0)", x.times(0, 0), 0);
        due.told(x, "times(0, 999)", x.times(0, 999), 0);
        due.refused(x, "times(0, -1)", x.times(0, -1), 2);
        due.refused(x, "times(0, 1000)", x.times(0, 1000), 2);
        due.refused(x, "times(2, 1000)", x.times(2, 1000), 1);
        due.told(x, "sorted(0, 5)", x.sorted(0, 5), 35);
    }

    private static void promise30() {
        GapRows x = Due.of("ranks error 4;stream a every 60;stream b every 1;push a 0 0 7 7 7 8 9 9");
        // N 8, nothing went: 0 twice, 7 three times, 8 once, 9 twice
        due.told(x, "heavy(0, 4, 0)", x.heavy(0, 4, 0), 0);
        due.told(x, "heavy(0, 4, 1)", x.heavy(0, 4, 1), 7);
        due.told(x, "heavy(0, 4, 2)", x.heavy(0, 4, 2), 9);
        due.told(x, "heavy(0, 4, 3)", x.heavy(0, 4, 3), -2);
        due.told(x, "heavy(0, 3, 0)", x.heavy(0, 3, 0), 7);
        due.told(x, "heavy(0, 3, 1)", x.heavy(0, 3, 1), -2);
        due.told(x, "heavy(0, 2, 0)", x.heavy(0, 2, 0), -2);
        due.told(x, "heavy(0, 100, 3)", x.heavy(0, 100, 3), 9);
        due.told(x, "heavy(0, 8, 2)", x.heavy(0, 8, 2), 8);
        due.told(x, "heavy(1, 1, 0)", x.heavy(1, 1, 0), -2);
        due.refused(x, "heavy(0, 0, 0)", x.heavy(0, 0, 0), 2);
        due.refused(x, "heavy(0, 101, 0)", x.heavy(0, 101, 0), 2);
        due.refused(x, "heavy(0, 101, -1)", x.heavy(0, 101, -1), 1);
        due.refused(x, "heavy(2, 1, 0)", x.heavy(2, 1, 0), 1);
    }

    private static void promise31() {
        GapRows x = Due.of("ranks error 2;stream a every 60;stream b every 60;push a 1 2 3");
        due.refused(x, "apart(0, 1)", x.apart(0, 1), 5);
        due.refused(x, "apart(1, 0)", x.apart(1, 0), 5);
        due.refused(x, "apart(0, 0)", x.apart(0, 0), 1);
        due.refused(x, "apart(0, 2)", x.apart(0, 2), 1);
        due.refused(x, "apart(2, 1)", x.apart(2, 1), 1);
        x.push(1, 3);
        x.push(1, 9);
        // up to 2: 2 of 3 here, 0 of 2 there
        due.told(x, "apart(0, 1)", x.apart(0, 1), 66);
        due.told(x, "apart(1, 0)", x.apart(1, 0), 66);
        x.push(1, 9);
        x.push(1, 9);
        // up to 3: 1 less a quarter, the more of both
        due.told(x, "apart(0, 1)", x.apart(0, 1), 75);
        GapRows y = Due.of("ranks error 2;stream a every 60;stream b every 60;push a 4 4;push b 4 4 4");
        due.told(y, "apart of like ones", y.apart(0, 1), 0);
        y.clear(0);
        y.push(0, 5);
        due.told(y, "apart of two that lie apart", y.apart(0, 1), 100);
        y.clear(1);
        y.push(1, 6);
        due.told(y, "apart of one and one", y.apart(0, 1), 100);
    }

    /** Of like VALUES that of the STREAM merged into comes first: 60 of the second gets SPREAD 3 by 100. */
    private static void promises32and44() {
        GapRows x = withSecond();
        due.told(x, "would(0, 1)", x.would(0, 1), 5);
        due.row(x, 0, 10, 1, 0, 20, 1, 0, 60, 4, 0, 100, 4, 0);
        due.row(x, 1, 15, 1, 0, 60, 1, 0, 200, 1, 0);
        due.same("nothing was COMPRESSED", x.about(4), 1);
        due.told(x, "merge(0, 1)", x.merge(0, 1), 5);
        due.row(x, 0, 10, 1, 0, 15, 1, 0, 60, 5, 0, 100, 5, 0, 200, 1, 0);
        due.told(x, "N", x.stream(0, 0), 13);
        due.told(x, "COMPRESSIONS", x.stream(0, 5), 2);
        due.told(x, "PUSHES since", x.stream(0, 4), 0);
        due.told(x, "times(0, 60)", x.times(0, 60), 2);
        due.told(x, "the other N", x.stream(1, 0), 0);
        due.told(x, "the other TUPLES", x.stream(1, 1), 0);
        due.told(x, "the other EVERY", x.stream(1, 3), 60);
        due.told(x, "the other PUSHES", x.stream(1, 4), 0);
        due.told(x, "the other COMPRESSIONS", x.stream(1, 5), 0);
        due.told(x, "the other times", x.times(1, 60), 0);
        // the other way round 60 of the second stands ahead with SPREAD 3: 100 goes into 200, 60 into 60, 15 into 20
        x = withSecond();
        x.compress(1);
        due.told(x, "would(1, 0)", x.would(1, 0), 4);
        due.told(x, "merge(1, 0)", x.merge(1, 0), 4);
        due.row(x, 1, 10, 1, 0, 20, 2, 0, 60, 5, 0, 200, 5, 0);
        due.told(x, "the first one's COMPRESSIONS", x.stream(0, 5), 1);
        due.told(x, "its own COMPRESSIONS", x.stream(1, 5), 2);
    }

    private static void mergeRefused() {
        GapRows x = ten();
        due.refused(x, "would(0, 0)", x.would(0, 0), 1);
        due.refused(x, "would(0, 2)", x.would(0, 2), 1);
        due.refused(x, "would(-1, 0)", x.would(-1, 0), 1);
        due.refused(x, "merge(0, 0)", x.merge(0, 0), 1);
        due.refused(x, "merge(0, 2)", x.merge(0, 2), 1);
        due.refused(x, "merge(2, 0)", x.merge(2, 0), 1);
        due.told(x, "merge(1, 0) into an empty one", x.merge(1, 0), 4);
        due.told(x, "merge(0, 1)", x.merge(0, 1), 4);
        for (int i = 0; i < 4; i++) {
            x.draw(0, 200, 1000);
        }
        x.draw(1, 190, 1000);
        due.told(x, "N", x.stream(0, 0), 810);
        due.same("would(0, 1) of 1,000", x.would(0, 1) > 0 ? 1 : 0, 1);
        x.push(1, 1);
        due.refused(x, "would(0, 1) of 1,001", x.would(0, 1), 3);
        due.refused(x, "merge(0, 1) of 1,001", x.merge(0, 1), 3);
        due.refused(x, "whole(0) of 1,001", x.whole(0), 3);
        due.refused(x, "whole(3) of 1,001", x.whole(3), 1);
        due.refused(x, "overall(0, 0) of 1,001", x.overall(0, 0), 3);
        due.told(x, "N stays", x.stream(0, 0), 810);
        due.told(x, "N stays", x.stream(1, 0), 191);
        x.clear(1);
        x.draw(1, 190, 1000);
        due.told(x, "whole(0) of 1,000", x.whole(0), 1000);
        due.told(x, "overall(1, 1) of 1,000", x.overall(1, 1), 0);
        due.told(x, "merge(0, 1) of 1,000", x.merge(0, 1) > 0 ? 1 : 0, 1);
        due.told(x, "N of both", x.stream(0, 0), 1000);
        due.told(x, "check(0)", x.check(0), 0);
    }

    private static void promise33() {
        GapRows x = withDoubt();
        due.told(x, "wins(0, 1, true) against none", x.wins(0, 1, true), 0);
        due.told(x, "wins(1, 0, false) of none", x.wins(1, 0, false), 0);
        x.every(1, 60);
        x.push(1, 60);
        x.push(1, 40);
        // CEILINGS 10 20 35 60 x4 100 x4 against 40 and 60: 2 + 2 + 2
        due.told(x, "wins(0, 1, false)", x.wins(0, 1, false), 6);
        // FLOORS 10 20 x4 35 60 x4 100: 6 times 2
        due.told(x, "wins(0, 1, true)", x.wins(0, 1, true), 12);
        // of 40: MOST there 6 and so 5 beyond, of 60: MOST 10 and so 1
        due.told(x, "wins(1, 0, false)", x.wins(1, 0, false), 6);
        // SURE 3 and 7
        due.told(x, "wins(1, 0, true)", x.wins(1, 0, true), 12);
        due.refused(x, "wins(0, 0, true)", x.wins(0, 0, true), 1);
        due.refused(x, "wins(0, 2, true)", x.wins(0, 2, true), 1);
        due.refused(x, "wins(2, 0, true)", x.wins(2, 0, true), 1);
    }

    private static void promises34and35() {
        GapRows x = shortTen();
        due.told(x, "whole(0) of one", x.whole(0), 10);
        due.told(x, "whole(1) of one", x.whole(1), 4);
        due.told(x, "whole(2) of one", x.whole(2), 2);
        x.push(0, 70);
        due.told(x, "one alone is not COMPRESSED", x.whole(1), 5);
        x = withSecond();
        // 10 (1, 0), 15 (1, 0), 60 (5, 0), 100 (5, 0), 200 (1, 0)
        due.told(x, "whole(0)", x.whole(0), 13);
        due.told(x, "whole(1)", x.whole(1), 5);
        due.told(x, "whole(2)", x.whole(2), 2);
        due.told(x, "overall(2, 0)", x.overall(2, 0), 15);
        due.told(x, "overall(2, 1)", x.overall(2, 1), 0);
        due.told(x, "overall(5, 0)", x.overall(5, 0), 60);
        due.told(x, "overall(5, 1)", x.overall(5, 1), 2);
        due.told(x, "overall(4, 0)", x.overall(4, 0), 15);
        due.told(x, "overall(13, 0)", x.overall(13, 0), 200);
        due.row(x, 1, 15, 1, 0, 60, 1, 0, 200, 1, 0);
        due.refused(x, "whole(3)", x.whole(3), 1);
        due.refused(x, "whole(-1)", x.whole(-1), 1);
        due.refused(x, "overall(0, 0)", x.overall(0, 0), 2);
        due.refused(x, "overall(14, 0)", x.overall(14, 0), 2);
        due.refused(x, "overall(14, 2)", x.overall(14, 2), 1);
        due.refused(x, "overall(1, -1)", x.overall(1, -1), 1);
        x.clear(0);
        due.told(x, "whole(1) of the second alone", x.whole(1), 3);
        x.clear(1);
        due.refused(x, "whole(0) of nothing", x.whole(0), 5);
        due.refused(x, "whole(3) of nothing", x.whole(3), 1);
        due.refused(x, "overall(0, 0) of nothing", x.overall(0, 0), 5);
    }

    private static void promises36to39() {
        GapRows x = ten();
        // the second one lets nothing go
        due.told(x, "rounds(0)", x.rounds(0), 1);
        due.told(x, "rounds(1)", x.rounds(1), 0);
        due.told(x, "TUPLES stay", x.stream(0, 1), 10);
        due.told(x, "coarse(0, 5)", x.coarse(0, 5), 4);
        // BOUND 10: 8 go into the last one, which has GAP 9 then
        due.told(x, "coarse(0, 2)", x.coarse(0, 2), 2);
        // BOUND 6: 5 go, 40 stays, 30 and 20 go into it
        due.told(x, "coarse(0, 3)", x.coarse(0, 3), 3);
        due.told(x, "coarse(1, 2)", x.coarse(1, 2), 0);
        due.told(x, "TUPLES stay", x.stream(0, 1), 10);
        due.told(x, "ERROR stays", x.about(0), 5);
        due.refused(x, "coarse(0, 1)", x.coarse(0, 1), 2);
        due.refused(x, "coarse(0, 6)", x.coarse(0, 6), 2);
        due.refused(x, "coarse(2, 6)", x.coarse(2, 6), 1);
        due.refused(x, "rounds(2)", x.rounds(2), 1);
        due.told(x, "finest(0)", x.finest(0), 40);
        due.told(x, "finest(1)", x.finest(1), 40);
        x.compress(0);
        due.told(x, "rounds(0) then", x.rounds(0), 0);
        due.told(x, "finest(0) then", x.finest(0), 5);
        due.refused(x, "finest(2)", x.finest(2), 1);
        due.told(x, "spread(0, 9)", x.spread(0, 9), 0);
        due.told(x, "spread(0, 10)", x.spread(0, 10), 0);
        due.told(x, "spread(0, 20)", x.spread(0, 20), 3);
        due.told(x, "spread(0, 59)", x.spread(0, 59), 3);
        due.told(x, "spread(0, 60)", x.spread(0, 60), 3);
        due.told(x, "spread(0, 100)", x.spread(0, 100), 0);
        due.told(x, "spread(1, 0)", x.spread(1, 0), 0);
        x.push(0, 35);
        due.told(x, "spread(0, 34)", x.spread(0, 34), 3);
        due.refused(x, "spread(0, -1)", x.spread(0, -1), 2);
        due.refused(x, "spread(0, 1000)", x.spread(0, 1000), 2);
        due.refused(x, "spread(2, 1000)", x.spread(2, 1000), 1);
    }

    private static void promise40() {
        GapRows x = ten();
        due.told(x, "push(1, 7)", x.push(1, 7), 1);
        due.told(x, "push(1, 5)", x.push(1, 5), 2);
        due.told(x, "PUSHES since", x.stream(1, 4), 2);
        // BOUND 1 of 3 VALUES by 5: nothing goes
        due.told(x, "push(1, 6)", x.push(1, 6), 3);
        due.told(x, "PUSHES since", x.stream(1, 4), 0);
        due.told(x, "COMPRESSIONS", x.stream(1, 5), 1);
        due.row(x, 1, 5, 1, 0, 6, 1, 0, 7, 1, 0);
        x.push(1, 0);
        x.push(1, 999);
        // BOUND 2 of 6 VALUES: from the back each second one goes
        due.told(x, "push(1, 6)", x.push(1, 6), 4);
        due.row(x, 1, 0, 1, 0, 5, 1, 0, 6, 2, 0, 999, 2, 0);
        due.refused(x, "push(1, -1)", x.push(1, -1), 2);
        due.refused(x, "push(1, 1000)", x.push(1, 1000), 2);
        due.refused(x, "push(2, 1000)", x.push(2, 1000), 1);
        for (int i = 0; i < 4; i++) {
            x.draw(0, 200, 5);
        }
        x.draw(0, 190, 5);
        due.refused(x, "push(0, 1) of 1,001", x.push(0, 1), 3);
        due.refused(x, "push(0, -1) of 1,001", x.push(0, -1), 2);
        due.refused(x, "draw(0, 1, 1) of 1,001", x.draw(0, 1, 1), 3);
        due.told(x, "N", x.stream(0, 0), 1000);
    }

    private static void promises41and42() {
        GapRows x = Due.of("ranks error 40;stream a every 60");
        // 149, 11249, 843749 less 12 * 65537
        due.told(x, "draw(0, 3, 100)", x.draw(0, 3, 100), 3);
        due.row(x, 0, 5, 1, 0, 49, 1, 0, 49, 1, 0);
        due.told(x, "SEED", x.about(5), 57305);
        due.yes("seed(65536)", x.seed(65536));
        // 75 * 65536 + 74 = 4915274, less 74 * 65537 is 65536
        due.told(x, "draw(0, 1, 1000)", x.draw(0, 1, 1000), 4);
        due.told(x, "SEED", x.about(5), 65536);
        due.told(x, "times(0, 536)", x.times(0, 536), 1);
        due.yes("seed(0)", x.seed(0));
        due.told(x, "draw(0, 1, 1)", x.draw(0, 1, 1), 5);
        due.told(x, "SEED", x.about(5), 74);
        due.told(x, "times(0, 0)", x.times(0, 0), 1);
        due.yes("seed(-1)", !x.seed(-1));
        due.same("trouble()", x.trouble(), 2);
        due.yes("seed(65537)", !x.seed(65537));
        due.same("trouble()", x.trouble(), 2);
        due.told(x, "SEED stays", x.about(5), 74);
        x.about(9);
        due.yes("seed(5)", x.seed(5));
        due.same("trouble()", x.trouble(), 0);
        due.refused(x, "draw(0, 0, 5)", x.draw(0, 0, 5), 2);
        due.refused(x, "draw(0, 201, 5)", x.draw(0, 201, 5), 2);
        due.refused(x, "draw(0, 1, 0)", x.draw(0, 1, 0), 2);
        due.refused(x, "draw(0, 1, 1001)", x.draw(0, 1, 1001), 2);
        due.refused(x, "draw(1, 0, 5)", x.draw(1, 0, 5), 1);
        for (int i = 0; i < 4; i++) {
            x.draw(0, 200, 1000);
        }
        x.seed(9);
        due.refused(x, "draw(0, 196, 5)", x.draw(0, 196, 5), 3);
        due.told(x, "none is PUSHED", x.stream(0, 0), 805);
        due.told(x, "SEED stays", x.about(5), 9);
        due.same("draw(0, 195, 5)", x.draw(0, 195, 5) > 0 ? 1 : 0, 1);
        due.told(x, "N", x.stream(0, 0), 1000);
        due.told(x, "check(0)", x.check(0), 0);
    }

    private static void promise43() {
        GapRows x = shortTen();
        due.row(x, 0, 10, 1, 0, 20, 1, 0, 60, 4, 0, 100, 4, 0);
        due.told(x, "PUSHES since", x.stream(0, 4), 0);
        due.told(x, "COMPRESSIONS", x.stream(0, 5), 1);
        due.told(x, "compress(0) again", x.compress(0), 0);
        due.told(x, "compress(1)", x.compress(1), 0);
        due.told(x, "COMPRESSIONS", x.stream(0, 5), 2);
        due.told(x, "COMPRESSIONS of an empty ROW", x.stream(1, 5), 1);
        due.refused(x, "compress(2)", x.compress(2), 1);
        x = Due.of("ranks error 2;stream a every 60;push a 1 9 5");
        x.compress(0);
        x.push(0, 4);
        x.push(0, 2);
        // 1 (1, 0), 2 (1, 1), 4 (1, 1), 9 (2, 0) by 5: 4 goes (9 has 3), 2 goes (9 has 4)
        due.told(x, "compress(0)", x.compress(0), 2);
        due.row(x, 0, 1, 1, 0, 9, 4, 0);
    }

    /** A FAMILY goes as one or stays as one: 3 has 2 ahead of it with a lesser BAND. */
    private static void familyGoes() {
        GapRows x = Due.of("ranks error 4;stream a every 60;push a 1 2 3 30 31 32");
        x.compress(0);
        // BOUND 3: 32 (3, 0), 3 (2, 0) ahead of it, and 1
        due.row(x, 0, 1, 1, 0, 3, 2, 0, 32, 3, 0);
        x.push(0, 2);
        x.push(0, 40);
        x.push(0, 41);
        x.push(0, 42);
        // N 10, BOUND 5
        due.row(x, 0, 1, 1, 0, 2, 1, 1, 3, 2, 0, 32, 3, 0, 40, 1, 0, 41, 1, 0, 42, 1, 0);
        due.told(x, "FAMILY of 3", x.tuple(0, 2, 6), 2);
        // 41, 40 go into 42 (3, 0); 32 doesn't (6); 3 with 2 doesn't (3 and 3); 2 goes into 3 (3, 0)
        due.told(x, "goes(0, 2)", x.goes(0, 2), 0);
        due.told(x, "goes(0, 1)", x.goes(0, 1), 1);
        x.error(3);
        // BOUND 6
        due.told(x, "goes(0, 2) by 3", x.goes(0, 2), 1);
        x.error(4);
        due.told(x, "compress(0)", x.compress(0), 3);
        due.row(x, 0, 1, 1, 0, 3, 3, 0, 32, 3, 0, 42, 3, 0);
        x = Due.of("ranks error 4;stream a every 60;push a 1 2 3 30 31 32");
        x.compress(0);
        x.push(0, 2);
        x.error(2);
        // BOUND 7: 3 and 2 go into 32 at once
        due.told(x, "compress(0) by 2", x.compress(0), 2);
        due.row(x, 0, 1, 1, 0, 32, 6, 0);
    }

    private static void promises45to47() {
        GapRows x = withDoubt();
        due.told(x, "clear(0)", x.clear(0), 11);
        due.told(x, "clear(0) again", x.clear(0), 0);
        int[] cleared = {0, 0, 1, 60, 0, 1, -2, -2, 0, 0};
        for (int what = 0; what <= 9; what++) {
            due.told(x, "stream(0, " + what + ")", x.stream(0, what), cleared[what]);
        }
        due.told(x, "sum(0)", x.sum(0), 0);
        due.refused(x, "clear(2)", x.clear(2), 1);
        x = ten();
        due.told(x, "every(0, 11)", x.every(0, 11), 10);
        due.told(x, "COMPRESSIONS", x.stream(0, 5), 0);
        due.told(x, "every(0, 10)", x.every(0, 10), 4);
        due.told(x, "COMPRESSIONS", x.stream(0, 5), 1);
        due.told(x, "PUSHES since", x.stream(0, 4), 0);
        due.told(x, "EVERY", x.stream(0, 3), 10);
        due.told(x, "every(0, 1)", x.every(0, 1), 4);
        due.told(x, "COMPRESSIONS", x.stream(0, 5), 1);
        due.told(x, "every(0, 60)", x.every(0, 60), 4);
        due.refused(x, "every(0, 0)", x.every(0, 0), 2);
        due.refused(x, "every(0, 61)", x.every(0, 61), 2);
        due.refused(x, "every(2, 61)", x.every(2, 61), 1);
        due.told(x, "EVERY stays", x.stream(0, 3), 60);
        x = ten();
        due.told(x, "every(0, 2)", x.every(0, 2), 4);
        due.told(x, "error(5)", x.error(5), 5);
        due.refused(x, "error(6)", x.error(6), 5);
        due.told(x, "ERROR stays", x.about(0), 5);
        due.told(x, "error(2)", x.error(2), 5);
        due.told(x, "ERROR", x.about(0), 2);
        due.told(x, "BOUND", x.stream(0, 2), 10);
        due.told(x, "TUPLES stay", x.stream(0, 1), 4);
        due.refused(x, "error(1)", x.error(1), 2);
        due.refused(x, "error(41)", x.error(41), 2);
        x.clear(0);
        due.told(x, "error(40)", x.error(40), 2);
        // BOUND of the second STREAM counts too
        x = ten();
        x.merge(1, 0);
        due.refused(x, "error(6) by the second", x.error(6), 5);
    }

    private static void promises48to50() {
        GapRows x = Due.of("ranks error 9;stream a every 1;stream b every 1;stream c every 1;stream d every 1;push b 1");
        due.same("idle(0)", x.idle(0), 0);
        due.same("idle(1)", x.idle(1), 2);
        due.same("idle(2)", x.idle(2), 3);
        due.noIdle(x, 3);
        due.noIdle(x, -1);
        due.noIdle(x, Integer.MIN_VALUE);
        due.noIdle(x, Integer.MAX_VALUE);
        x.about(9);
        due.noIdle(x, 3);
        due.same("idle is never refused by a number", x.trouble(), 1);
        x.idle(0);
        x.size();
        x.fault();
        x.where();
        x.trouble();
        x.feed(0, 0, 0, 0, 0);
        due.same("nor do these touch it", x.trouble(), 1);
        due.same("size()", x.size(), 20);
        due.same("ranks of noughts", x.ranks(20), GapRows.NONE);
        due.same("trouble()", x.trouble(), 4);
        due.same("where() of 4", x.where(), 0);
        x.feed(0, 0, 0, 0, 0);
        due.same("where() behind feed()", x.where(), 0);
        due.refused(x, "ranks(21)", x.ranks(21), 2);
        due.same("fault() behind that", x.fault(), 1);
    }

    public static void main(String[] args) {
        promise1();
        promises6and7();
        promises8and9();
        promise10();
        promise11();
        promises12and13();
        promises14and15();
        promises16to20();
        promises21to23();
        promise24();
        promises25to29();
        promise30();
        promise31();
        promises32and44();
        mergeRefused();
        promise33();
        promises34and35();
        promises36to39();
        promise40();
        promises41and42();
        promise43();
        familyGoes();
        promises45to47();
        promises48to50();
        due.finish();
    }
}
