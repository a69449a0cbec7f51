/** Term III and promises 12 to 35 at their edges, with answers worked out by hand. */
public final class AnswerEdgesTest {
    private static final Due due = new Due();
    private static final int LEAST = Integer.MIN_VALUE;
    private static final int GREATEST = Integer.MAX_VALUE;

    private static GapRows pushed(int error, int... values) {
        GapRows x = Due.of("ranks error " + error + ";stream a every 60;stream b every 60");
        for (int v : values) {
            x.push(0, v);
        }
        return x;
    }

    /** 10 (1, 0), 20 (1, 0), 35 (1, 3), 60 (4, 0), 100 (4, 0); N 11, ERROR 5 and so BOUND 4. */
    private static GapRows withDoubt() {
        GapRows x = pushed(5, 10, 20, 30, 40, 50, 60, 70, 80, 90, 100);
        x.compress(0);
        x.push(0, 35);
        due.row(x, 0, 10, 1, 0, 20, 1, 0, 35, 1, 3, 60, 4, 0, 100, 4, 0);
        return x;
    }

    private static void answerAtBothEnds() {
        due.by("ANSWER to the first and the last place: the first and the last TUPLE, OFF 0");
        for (int error : new int[] {2, 3, 5, 20, 40}) {
            GapRows x = Due.of("ranks error " + error + ";stream a every 7");
            x.seed(error);
            for (int i = 0; i < 30; i++) {
                x.draw(0, 1 + i % 25, 1000);
                int n = x.stream(0, 0);
                due.told(x, "answer(0, 1, 0)", x.answer(0, 1, 0), x.stream(0, 6));
                due.told(x, "answer(0, 1, 1)", x.answer(0, 1, 1), 0);
                due.told(x, "answer(0, 1, 2)", x.answer(0, 1, 2), 0);
                due.told(x, "answer(0, N, 0)", x.answer(0, n, 0), x.stream(0, 7));
                due.told(x, "answer(0, N, 1)", x.answer(0, n, 1), 0);
            }
        }
        due.by("ANSWER of one TUPLE");
        GapRows x = pushed(2, 7);
        due.told(x, "answer(0, 1, 0)", x.answer(0, 1, 0), 7);
        due.told(x, "answer(0, 1, 1)", x.answer(0, 1, 1), 0);
        due.told(x, "answer(0, 1, 2)", x.answer(0, 1, 2), 0);
        for (int r : new int[] {LEAST, -1, 0, 2, GREATEST}) {
            due.refused(x, "answer(0, " + r + ", 0)", x.answer(0, r, 0), 2);
            due.refused(x, "answer(1, " + r + ", 0)", x.answer(1, r, 0), 2);
        }
        due.refused(x, "answer(1, 1, 0) without VALUES", x.answer(1, 1, 0), 2);
    }

    private static void firstOfSeveral() {
        due.by("ANSWER: of several the first");
        GapRows x = pushed(2, 1, 5, 9);
        x.compress(0);
        // 1 (1, 0), 9 (2, 0): both are 1 off from place 2
        due.told(x, "answer(0, 2, 0)", x.answer(0, 2, 0), 1);
        due.told(x, "answer(0, 2, 1)", x.answer(0, 2, 1), 1);
        due.told(x, "answer(0, 2, 2)", x.answer(0, 2, 2), 0);
        x = pushed(2, 4, 4, 4);
        for (int r = 1; r <= 3; r++) {
            due.told(x, "answer of like VALUES", x.answer(0, r, 2), r - 1);
        }
        due.by("ANSWER: the greater one of r less LOW and HIGH less r");
        x = withDoubt();
        // 20 is 2 off from 4, 35 (LOW 3, HIGH 6) is 2 off from 4 and 5
        due.told(x, "answer(0, 4, 0)", x.answer(0, 4, 0), 20);
        due.told(x, "answer(0, 5, 0)", x.answer(0, 5, 0), 35);
        due.told(x, "answer(0, 5, 1)", x.answer(0, 5, 1), 2);
        due.told(x, "answer(0, 6, 0)", x.answer(0, 6, 0), 60);
    }

    private static void halfOfBound() {
        due.by("OFF: no more than half of BOUND, half a one up");
        for (int error = 2; error <= 40; error++) {
            GapRows x = Due.of("ranks error " + error + ";stream a every " + error + ";stream b every 60");
            x.seed(error * 7);
            for (int i = 0; i < 12; i++) {
                x.draw(0, 30 + i, i % 2 == 0 ? 1000 : 9);
                x.draw(1, 9, 500);
                int worst = x.worst(0);
                due.yes("worst(0) by " + error, worst <= (x.stream(0, 2) + 1) / 2);
                due.yes("missed(0) is no more than worst(0)", x.missed(0) <= worst);
                due.yes("worst(1)", x.worst(1) <= (x.stream(1, 2) + 1) / 2);
                due.told(x, "check(0)", x.check(0), 0);
            }
            x.merge(0, 1);
            due.yes("worst(0) behind merge()", x.worst(0) <= (x.stream(0, 2) + 1) / 2);
            due.told(x, "check(0)", x.check(0), 0);
        }
        due.by("exact, worst without VALUES");
        GapRows x = pushed(2);
        due.told(x, "exact(0)", x.exact(0), 0);
        due.told(x, "worst(0)", x.worst(0), -2);
        due.told(x, "missed(0)", x.missed(0), -2);
        x.push(0, 0);
        due.told(x, "exact(0)", x.exact(0), 1);
        due.told(x, "worst(0)", x.worst(0), 0);
        due.told(x, "missed(0)", x.missed(0), 0);
    }

    /** A STREAM of 60 VALUES, many of them alike, its ROW made by PUSHES, COMPRESSIONS and a MERGE. */
    private static GapRows mixed(int error) {
        GapRows x = Due.of("ranks error " + error + ";stream a every 7;stream b every 11");
        x.seed(error * 31);
        x.draw(0, 25, 1000);
        x.draw(1, 15, 40);
        x.merge(0, 1);
        x.draw(0, 20, 300);
        return x;
    }

    private static void toldBesideSorted() {
        for (int error = 2; error <= 40; error++) {
            GapRows x = mixed(error);
            int[] sorted = new int[60];
            due.by("SORTED lies between FLOOR and CEILING");
            for (int r = 1; r <= 60; r++) {
                sorted[r - 1] = x.sorted(0, r);
                due.yes("FLOOR of " + r, x.bounds(0, r, 0) <= sorted[r - 1]);
                due.yes("CEILING of " + r, x.bounds(0, r, 1) >= sorted[r - 1]);
            }
            x = mixed(error);
            due.by("its VALUE would stand at some place from LOW to HIGH; VALUES never fall");
            for (int i = 0; i < x.stream(0, 1); i++) {
                int v = x.tuple(0, i, 0);
                boolean stands = false;
                for (int r = x.tuple(0, i, 3); r <= x.tuple(0, i, 4); r++) {
                    stands = stands || sorted[r - 1] == v;
                }
                due.yes("TUPLE " + i + " by ERROR " + error, stands);
                due.yes("the next is no less", i == 0 || v >= x.tuple(0, i - 1, 0));
            }
            due.told(x, "check(0)", x.check(0), 0);
            due.by("SURE, MOST: at least, at most so many VALUES are no greater");
            x = mixed(error);
            for (int v = 0; v <= 999; v += 9) {
                int count = 0;
                for (int w : sorted) {
                    count += w <= v ? 1 : 0;
                }
                due.yes("SURE for " + v, x.rank(0, v, false) <= count);
                due.yes("MOST for " + v, x.rank(0, v, true) >= count);
            }
        }
    }

    /** The greater whole: the least place that is no less than N times k by n. */
    private static void quotas() {
        due.by("QUOTA k of n: N times k by n, the greater whole; 1 at least");
        for (int values = 1; values <= 13; values += 3) {
            for (int n = 1; n <= 100; n++) {
                GapRows x = pushed(40);
                for (int v = 1; v <= values; v++) {
                    x.push(0, v);
                }
                for (int k = 0; k <= n; k++) {
                    int place = 1;
                    while (place * n < values * k) {
                        place++;
                    }
                    String call = "quota(0, " + k + ", " + n + ", 2) of " + values;
                    due.told(x, call, x.quota(0, k, n, 2), place);
                    due.told(x, "its VALUE, " + call, x.quota(0, k, n, 0), place);
                }
            }
        }
        GapRows x = pushed(40, 5);
        due.by("quota: k (0 .. n) of n (1 .. 100)");
        for (int n : new int[] {1, 2, 99, 100}) {
            due.told(x, "quota(0, 0, " + n + ", 2)", x.quota(0, 0, n, 2), 1);
            due.told(x, "quota(0, n, " + n + ", 2)", x.quota(0, n, n, 2), 1);
            due.told(x, "quota(0, n, " + n + ", 1)", x.quota(0, n, n, 1), 0);
            due.refused(x, "quota(0, n + 1, " + n + ", 2)", x.quota(0, n + 1, n, 2), 2);
            due.refused(x, "quota(0, -1, " + n + ", 2)", x.quota(0, -1, n, 2), 2);
            due.refused(x, "quota(1, 0, " + n + ", 2)", x.quota(1, 0, n, 2), 5);
            due.refused(x, "quota(1, n + 1, " + n + ", 2)", x.quota(1, n + 1, n, 2), 2);
        }
        for (int n : new int[] {LEAST, -1, 0, 101, GREATEST}) {
            due.refused(x, "quota(0, 0, " + n + ", 2)", x.quota(0, 0, n, 2), 2);
            due.refused(x, "quota(0, n, " + n + ", 2)", x.quota(0, n, n, 2), 2);
        }
        x = full();
        due.by("QUOTA of 1,000 VALUES");
        due.told(x, "quota(0, 1, 100, 2)", x.quota(0, 1, 100, 2), 10);
        due.told(x, "quota(0, 99, 100, 2)", x.quota(0, 99, 100, 2), 990);
        due.told(x, "quota(0, 100, 100, 2)", x.quota(0, 100, 100, 2), 1000);
        due.told(x, "quota(0, 1, 3, 2)", x.quota(0, 1, 3, 2), 334);
        due.told(x, "quota(0, 2, 3, 2)", x.quota(0, 2, 3, 2), 667);
    }

    /** 1,000 times 536 in the first STREAM: SEED 65,536 becomes itself by each DRAW. */
    private static GapRows full() {
        GapRows x = pushed(40);
        x.seed(65536);
        for (int i = 0; i < 5; i++) {
            x.draw(0, 200, 1000);
        }
        due.told(x, "N", x.stream(0, 0), 1000);
        due.told(x, "times(0, 536)", x.times(0, 536), 1000);
        return x;
    }

    private static void sureAndMost() {
        due.by("SURE, MOST for each VALUE");
        GapRows x = withDoubt();
        int calls = 0;
        for (int v = 0; v <= 999; v++) {
            if (++calls > 200) {
                calls = 0;
                x = withDoubt();
            }
            int sure = v < 10 ? 0 : v < 20 ? 1 : v < 35 ? 2 : v < 60 ? 3 : v < 100 ? 7 : 11;
            int most = v < 10 ? 0 : v < 20 ? 1 : v < 35 ? 5 : v < 60 ? 6 : v < 100 ? 10 : 11;
            due.same("rank(0, " + v + ", false)", x.rank(0, v, false), sure);
            due.same("rank(0, " + v + ", true)", x.rank(0, v, true), most);
        }
        due.by("SURE: 0 without; MOST: N without");
        x = pushed(5, 0, 999);
        due.told(x, "rank(0, 0, false)", x.rank(0, 0, false), 1);
        due.told(x, "rank(0, 0, true)", x.rank(0, 0, true), 1);
        due.told(x, "rank(0, 998, true)", x.rank(0, 998, true), 1);
        due.told(x, "rank(0, 999, true)", x.rank(0, 999, true), 2);
        due.told(x, "rank(0, 999, false)", x.rank(0, 999, false), 2);
        for (int v : new int[] {0, 500, 999}) {
            due.told(x, "rank(1, v, false) without a TUPLE", x.rank(1, v, false), 0);
            due.told(x, "rank(1, v, true) without a TUPLE", x.rank(1, v, true), 0);
        }
        due.by("SURE: LOW of the last TUPLE with a VALUE no greater");
        x = pushed(40, 4, 4, 4, 7);
        due.told(x, "rank(0, 4, false)", x.rank(0, 4, false), 3);
        due.told(x, "rank(0, 3, true)", x.rank(0, 3, true), 0);
        due.by("rank: a VALUE (0 .. 999)");
        for (int v : new int[] {LEAST, -1, 1000, GREATEST}) {
            due.refused(x, "rank(0, " + v + ", false)", x.rank(0, v, false), 2);
            due.refused(x, "rank(1, " + v + ", true)", x.rank(1, v, true), 2);
        }
    }

    private static void betweenTwo() {
        due.by("between: from v to w (0 .. 999, no less)");
        GapRows x = withDoubt();
        // v, w, at least, at most
        int[][] told = {{0, 999, 11, 11}, {0, 0, 0, 0}, {999, 999, 0, 0}, {0, 10, 1, 1}, {10, 10, 1, 1}, {11, 999, 10, 10},
            {100, 999, 1, 4}, {100, 100, 1, 4}, {101, 999, 0, 0}, {20, 20, 1, 4}, {21, 34, 0, 3}, {21, 35, 0, 4},
            {35, 35, 0, 4}, {36, 60, 1, 7}, {60, 60, 1, 7}, {35, 60, 2, 8}, {61, 99, 0, 3}, {61, 100, 1, 4}};
        for (int[] t : told) {
            String call = "between(0, " + t[0] + ", " + t[1];
            due.told(x, call + ", false)", x.between(0, t[0], t[1], false), t[2]);
            due.told(x, call + ", true)", x.between(0, t[0], t[1], true), t[3]);
        }
        int[][] refused = {{1, 0}, {999, 998}, {500, 499}, {999, 0}, {-1, -1}, {-1, 0}, {1000, 1000}, {999, 1000}, {0, 1000},
            {LEAST, GREATEST}, {GREATEST, LEAST}, {LEAST, LEAST}, {GREATEST, GREATEST}, {0, GREATEST}, {LEAST, 999}};
        for (int[] r : refused) {
            String call = "(" + r[0] + ", " + r[1] + ")";
            due.refused(x, "between at least " + call, x.between(0, r[0], r[1], false), 2);
            due.refused(x, "between at most " + call, x.between(0, r[0], r[1], true), 2);
            due.refused(x, "between of none " + call, x.between(1, r[0], r[1], true), 2);
        }
        due.by("between without VALUES");
        due.told(x, "between(1, 0, 999, true)", x.between(1, 0, 999, true), 0);
        due.told(x, "between(1, 0, 999, false)", x.between(1, 0, 999, false), 0);
        x = full();
        due.told(x, "between(0, 536, 536, false) of 1,000", x.between(0, 536, 536, false), 1000);
        due.told(x, "between(0, 0, 535, true)", x.between(0, 0, 535, true), 0);
    }

    private static void floorsAndCeilings() {
        due.by("FLOOR: VALUE of the last TUPLE with HIGH no greater; CEILING: of the first one with LOW no less");
        GapRows x = withDoubt();
        int[] floors = {10, 20, 20, 20, 20, 35, 60, 60, 60, 60, 100};
        int[] ceilings = {10, 20, 35, 60, 60, 60, 60, 100, 100, 100, 100};
        for (int r = 1; r <= 11; r++) {
            due.told(x, "FLOOR of " + r, x.bounds(0, r, 0), floors[r - 1]);
            due.told(x, "CEILING of " + r, x.bounds(0, r, 1), ceilings[r - 1]);
        }
        for (int r : new int[] {LEAST, -1, 0, 12, GREATEST}) {
            due.refused(x, "bounds(0, " + r + ", 0)", x.bounds(0, r, 0), 2);
            due.refused(x, "bounds(0, " + r + ", 1)", x.bounds(0, r, 1), 2);
            due.refused(x, "bounds(0, " + r + ", 2)", x.bounds(0, r, 2), 1);
        }
        due.refused(x, "bounds(1, 1, 0) without VALUES", x.bounds(1, 1, 0), 2);
        due.by("unsure, total without VALUES, of one, of like ones");
        for (int what = 0; what <= 1; what++) {
            due.told(x, "unsure(1, " + what + ")", x.unsure(1, what), 0);
            due.told(x, "total(1)", x.total(1, what == 1), 0);
        }
        x = pushed(2, 999);
        due.told(x, "unsure(0, 0)", x.unsure(0, 0), 0);
        due.told(x, "unsure(0, 1)", x.unsure(0, 1), 0);
        due.told(x, "total(0, false)", x.total(0, false), 999);
        x = pushed(2, 7, 7, 7, 7);
        x.compress(0);
        due.told(x, "TUPLES", x.stream(0, 1), 2);
        due.told(x, "unsure(0, 0): FLOOR is CEILING", x.unsure(0, 0), 0);
        due.told(x, "total(0, true)", x.total(0, true), 28);
        x = pushed(2, 0, 5, 999);
        x.compress(0);
        due.told(x, "unsure(0, 0)", x.unsure(0, 0), 1);
        due.told(x, "unsure(0, 1): the greatest difference there can be", x.unsure(0, 1), 999);
        due.told(x, "total(0, false)", x.total(0, false), 999);
        due.told(x, "total(0, true)", x.total(0, true), 1998);
        x = full();
        due.told(x, "total(0, false) of 1,000", x.total(0, false), 536000);
        due.told(x, "total(0, true) of 1,000", x.total(0, true), 536000);
    }

    private static void bars() {
        due.by("bar: QUOTA k (0 .. n - 1) of n (1 .. 100)");
        GapRows x = withDoubt();
        for (int n : new int[] {1, 2, 11, 99, 100}) {
            for (int k : new int[] {LEAST, -1, n, n + 1, GREATEST}) {
                due.refused(x, "bar(0, " + k + ", " + n + ", false)", x.bar(0, k, n, false), 2);
                due.refused(x, "bar(1, " + k + ", " + n + ", true)", x.bar(1, k, n, true), 2);
            }
            due.yes("bar(0, 0, " + n + ", true)", x.bar(0, 0, n, true) >= 0);
            due.yes("bar(0, n - 1, " + n + ", true)", x.bar(0, n - 1, n, true) >= 0);
            due.refused(x, "bar(1, 0, " + n + ", true)", x.bar(1, 0, n, true), 5);
        }
        x = withDoubt();
        for (int n : new int[] {LEAST, -1, 0, 101, GREATEST}) {
            due.refused(x, "bar(0, 0, " + n + ", true)", x.bar(0, 0, n, true), 2);
            due.refused(x, "uneven(0, " + n + ")", x.uneven(0, n), 2);
            due.refused(x, "uneven(1, " + n + ")", x.uneven(1, n), 2);
        }
        due.refused(x, "uneven(1, 1) without VALUES", x.uneven(1, 1), 5);
        due.by("bar: above the one and no greater than the other; at least (0 and more), at most");
        // QUOTAS of 1: 1, 11; of 2: 1, 6, 11; ANSWERS 10, 60, 100
        int[][] told = {{0, 1, 10, 10}, {0, 2, 6, 9}, {1, 2, 1, 4}};
        for (int[] t : told) {
            due.told(x, "bar(0, " + t[0] + ", " + t[1] + ", false)", x.bar(0, t[0], t[1], false), t[2]);
            due.told(x, "bar(0, " + t[0] + ", " + t[1] + ", true)", x.bar(0, t[0], t[1], true), t[3]);
        }
        due.told(x, "uneven(0, 1)", x.uneven(0, 1), 0);
        due.told(x, "uneven(0, 2)", x.uneven(0, 2), 8);
        // QUOTAS of 11 are all places; ANSWERS 20 and 35 to 4 and 5: 2 .. 5 and 3 .. 6 VALUES up to them
        due.told(x, "bar(0, 4, 11, false)", x.bar(0, 4, 11, false), 0);
        due.told(x, "bar(0, 4, 11, true)", x.bar(0, 4, 11, true), 4);
        // like ANSWERS, 20 to 3 and 4: MOST less SURE all the same
        due.told(x, "bar(0, 3, 11, false)", x.bar(0, 3, 11, false), 0);
        due.told(x, "bar(0, 3, 11, true)", x.bar(0, 3, 11, true), 3);
        due.by("bar, uneven of one VALUE");
        x = pushed(2, 7);
        due.told(x, "bar(0, 0, 1, false)", x.bar(0, 0, 1, false), 0);
        due.told(x, "bar(0, 0, 1, true)", x.bar(0, 0, 1, true), 0);
        due.told(x, "bar(0, 99, 100, true)", x.bar(0, 99, 100, true), 0);
        due.told(x, "uneven(0, 1)", x.uneven(0, 1), 0);
        due.told(x, "uneven(0, 100)", x.uneven(0, 100), 0);
        x = pushed(2, 1, 2, 3);
        due.told(x, "uneven(0, 3): 0, 1 and 1", x.uneven(0, 3), 1);
    }

    private static void meetings() {
        due.by("meets: QUOTAS (0 .. n) of n (1 .. 100)");
        GapRows x = pushed(2, 5);
        x.push(1, 5);
        for (int n : new int[] {1, 2, 99, 100}) {
            due.told(x, "meets(0, 1, " + n + ", 0)", x.meets(0, 1, n, 0), n + 1);
            due.told(x, "meets(0, 1, " + n + ", 1)", x.meets(0, 1, n, 1), 0);
            due.told(x, "meets(0, 1, " + n + ", 2)", x.meets(0, 1, n, 2), 0);
        }
        x.push(1, 6);
        // QUOTA 0 of 1: 5 and 5; 1 of 1: 5 and 6
        due.told(x, "meets(0, 1, 1, 0)", x.meets(0, 1, 1, 0), 1);
        due.told(x, "meets(0, 1, 1, 1)", x.meets(0, 1, 1, 1), 1);
        due.told(x, "meets(1, 0, 1, 2)", x.meets(1, 0, 1, 2), 1);
        // the second has 5 up to QUOTA 50 of 100
        due.told(x, "meets(0, 1, 100, 0)", x.meets(0, 1, 100, 0), 51);
        due.told(x, "meets(0, 1, 100, 1)", x.meets(0, 1, 100, 1), 50);
        due.by("meets: 5 (one has no VALUES)");
        x.clear(0);
        due.refused(x, "meets(0, 1, 1, 0)", x.meets(0, 1, 1, 0), 5);
        due.refused(x, "meets(1, 0, 1, 0)", x.meets(1, 0, 1, 0), 5);
        due.refused(x, "meets(0, 1, 0, 0)", x.meets(0, 1, 0, 0), 2);
        due.refused(x, "meets(0, 1, 0, 3)", x.meets(0, 1, 0, 3), 1);
        x.clear(1);
        due.refused(x, "meets(0, 1, 100, 0)", x.meets(0, 1, 100, 0), 5);
    }

    private static void beside() {
        due.by("SORTED: the VALUE at a place");
        GapRows x = pushed(40, 7, 0, 999, 7, 3);
        int[] sorted = {0, 3, 7, 7, 999};
        for (int r = 1; r <= 5; r++) {
            due.told(x, "sorted(0, " + r + ")", x.sorted(0, r), sorted[r - 1]);
        }
        for (int r : new int[] {LEAST, -1, 0, 6, GREATEST}) {
            due.refused(x, "sorted(0, " + r + ")", x.sorted(0, r), 2);
            due.refused(x, "miss(0, " + r + ")", x.miss(0, r), 2);
        }
        due.refused(x, "sorted(1, 1) without VALUES", x.sorted(1, 1), 2);
        due.refused(x, "miss(1, 1) without VALUES", x.miss(1, 1), 2);
        due.told(x, "sum(0)", x.sum(0), 1016);
        due.told(x, "sum(1) without VALUES", x.sum(1), 0);
        int[][] times = {{0, 1}, {1, 0}, {6, 0}, {7, 2}, {8, 0}, {998, 0}, {999, 1}};
        for (int[] t : times) {
            due.told(x, "times(0, " + t[0] + ")", x.times(0, t[0]), t[1]);
            due.told(x, "times(1, " + t[0] + ")", x.times(1, t[0]), 0);
        }
        for (int v : new int[] {LEAST, -1, 1000, GREATEST}) {
            due.refused(x, "times(0, " + v + ")", x.times(0, v), 2);
        }
        due.by("MISS: ahead of the first, or behind the last place at which its VALUE stands; 0 else");
        // 1 (1, 0), 9 (5, 0); sorted 1 2 9 9 9 9
        x = pushed(2, 1, 2, 9, 9, 9, 9);
        x.compress(0);
        due.row(x, 0, 1, 1, 0, 9, 5, 0);
        int[] misses = {0, 1, 2, 0, 0, 0};
        int[] answers = {1, 1, 1, 9, 9, 9};
        for (int r = 1; r <= 6; r++) {
            due.told(x, "ANSWER to " + r, x.answer(0, r, 0), answers[r - 1]);
            due.told(x, "miss(0, " + r + ")", x.miss(0, r), misses[r - 1]);
        }
        due.told(x, "missed(0)", x.missed(0), 2);
        // sorted 1 2 3 4 9 9: the ANSWER to 4 is 9, which stands from 5 on
        x = pushed(2, 1, 2, 3, 4, 9, 9);
        x.compress(0);
        due.told(x, "miss(0, 4)", x.miss(0, 4), 1);
        due.told(x, "miss(0, 5)", x.miss(0, 5), 0);
        due.told(x, "missed(0)", x.missed(0), 2);
        due.by("MISS among VALUES 0 and 999");
        // 0 (1, 0), 999 (5, 0); sorted 0 0 0 0 999 999: 999 stands from 5 on, 0 up to 4
        x = pushed(2, 0, 0, 0, 0, 999, 999);
        x.compress(0);
        due.row(x, 0, 0, 1, 0, 999, 5, 0);
        int[] far = {0, 0, 0, 1, 0, 0};
        for (int r = 1; r <= 6; r++) {
            due.told(x, "miss(0, " + r + ")", x.miss(0, r), far[r - 1]);
        }
        due.told(x, "missed(0)", x.missed(0), 1);
    }

    private static void heavies() {
        due.by("HEAVY by n: SURE less MOST for v less 1, times n, is N at least");
        GapRows x = pushed(40, 3, 3, 5, 6, 7, 8, 9);
        // N 7: 3 comes twice
        due.told(x, "heavy(0, 4, 0): 8 of 7", x.heavy(0, 4, 0), 3);
        due.told(x, "heavy(0, 3, 0): 6 of 7", x.heavy(0, 3, 0), -2);
        due.told(x, "heavy(0, 6, 1): 6 of 7", x.heavy(0, 6, 1), -2);
        due.told(x, "heavy(0, 7, 1): 7 of 7", x.heavy(0, 7, 1), 5);
        due.told(x, "heavy(0, 7, 5)", x.heavy(0, 7, 5), 9);
        due.told(x, "heavy(0, 7, 6): there are not so many", x.heavy(0, 7, 6), -2);
        due.told(x, "heavy(0, 7, " + GREATEST + ")", x.heavy(0, 7, GREATEST), -2);
        for (int i : new int[] {LEAST, -1}) {
            due.refused(x, "heavy(0, 7, " + i + ")", x.heavy(0, 7, i), 1);
            due.refused(x, "heavy(0, 0, " + i + ")", x.heavy(0, 0, i), 1);
            due.refused(x, "heavy(1, 7, " + i + ") without VALUES", x.heavy(1, 7, i), 1);
        }
        for (int n : new int[] {LEAST, -1, 0, 101, GREATEST}) {
            due.refused(x, "heavy(0, " + n + ", 0)", x.heavy(0, n, 0), 2);
            due.refused(x, "heavy(1, " + n + ", 0) without VALUES", x.heavy(1, n, 0), 2);
        }
        due.told(x, "heavy(1, 1, 0) without VALUES", x.heavy(1, 1, 0), -2);
        due.told(x, "heavy(1, 100, 0) without VALUES", x.heavy(1, 100, 0), -2);
        due.by("HEAVY: (0 for 0)");
        x = pushed(40, 0, 0, 1);
        due.told(x, "heavy(0, 2, 0)", x.heavy(0, 2, 0), 0);
        due.told(x, "heavy(0, 1, 0)", x.heavy(0, 1, 0), -2);
        due.told(x, "heavy(0, 3, 1)", x.heavy(0, 3, 1), 1);
        due.by("HEAVY: VALUES of TUPLES, by what is sure");
        // 10 (1, 0), 20 (1, 0), 35 (1, 3), 60 (4, 0), 100 (4, 0): SURE for 60 is 7, MOST for 59 is 6
        x = withDoubt();
        int[] by11 = {10, 20, 60, 100, -2};
        for (int i = 0; i < 5; i++) {
            due.told(x, "heavy(0, 11, " + i + ")", x.heavy(0, 11, i), by11[i]);
        }
        due.told(x, "heavy(0, 10, 0)", x.heavy(0, 10, 0), -2);
        x = full();
        due.by("HEAVY: of 1,000 like VALUES");
        due.told(x, "heavy(0, 1, 0)", x.heavy(0, 1, 0), 536);
        due.told(x, "heavy(0, 100, 0)", x.heavy(0, 100, 0), 536);
        due.told(x, "heavy(0, 100, 1): told once", x.heavy(0, 100, 1), -2);
    }

    private static GapRows twoOf(int[] first, int[] second) {
        GapRows x = pushed(40, first);
        for (int v : second) {
            x.push(1, v);
        }
        return x;
    }

    private static void apartBoth(GapRows x, String what, int want) {
        due.told(x, "apart(0, 1) of " + what, x.apart(0, 1), want);
        due.told(x, "apart(1, 0) of " + what, x.apart(1, 0), want);
    }

    private static void aparts() {
        due.by("APART: 0 at least; cut; either way");
        apartBoth(twoOf(new int[] {5}, new int[] {5}), "like ones", 0);
        apartBoth(twoOf(new int[] {0}, new int[] {999}), "0 and 999", 100);
        apartBoth(twoOf(new int[] {999}, new int[] {0}), "999 and 0", 100);
        apartBoth(twoOf(new int[] {0}, new int[] {0}), "0 and 0", 0);
        apartBoth(twoOf(new int[] {999}, new int[] {999}), "999 and 999", 0);
        apartBoth(twoOf(new int[] {1, 5, 5}, new int[] {5}), "a third", 33);
        apartBoth(twoOf(new int[] {1, 1, 5}, new int[] {5}), "two thirds", 66);
        apartBoth(twoOf(new int[] {1, 9}, new int[] {1, 1, 9}), "2 of 3 less 1 of 2", 16);
        apartBoth(twoOf(new int[] {1, 9, 9}, new int[] {4, 4, 4}), "either way", 66);
        due.by("APART: MOST of the other one");
        // 1 (1, 0), 9 (5, 0) and 5: up to 1 is 1 of 6 here, 0 there; up to 5 all there, 5 of 6 at most here
        GapRows x = pushed(2, 1, 2, 3, 4, 5, 9);
        x.compress(0);
        x.push(1, 5);
        apartBoth(x, "a ROW with a GAP", 16);
        due.by("APART: of 1,000 and 1,000");
        x = full();
        for (int i = 0; i < 5; i++) {
            x.draw(1, 200, 1);
        }
        apartBoth(x, "1,000 and 1,000", 100);
        due.by("apart: 5 (one has no VALUES)");
        x.clear(1);
        due.refused(x, "apart(0, 1)", x.apart(0, 1), 5);
        due.refused(x, "apart(1, 0)", x.apart(1, 0), 5);
        x.clear(0);
        due.refused(x, "apart(0, 1)", x.apart(0, 1), 5);
        due.refused(x, "apart(0, 0) of one without VALUES", x.apart(0, 0), 1);
    }

    private static void winsOf(GapRows x, int s, int t, int surely, int most) {
        due.told(x, "wins(" + s + ", " + t + ", false)", x.wins(s, t, false), surely);
        due.told(x, "wins(" + s + ", " + t + ", true)", x.wins(s, t, true), most);
    }

    private static void winners() {
        due.by("WINS: couples by which the VALUE here is the lesser one");
        GapRows x = twoOf(new int[] {5}, new int[] {5});
        winsOf(x, 0, 1, 0, 0);
        winsOf(x, 1, 0, 0, 0);
        x = twoOf(new int[] {5}, new int[] {6});
        winsOf(x, 0, 1, 1, 1);
        winsOf(x, 1, 0, 0, 0);
        x = twoOf(new int[] {0, 5, 999}, new int[] {0, 5, 999});
        winsOf(x, 0, 1, 3, 3);
        winsOf(x, 1, 0, 3, 3);
        due.by("WINS: surely by CEILINGS and MOST, at most by FLOORS and SURE");
        // here FLOORS 1 1 9 and CEILINGS 1 9 9, there 5
        x = pushed(2, 1, 5, 9);
        x.compress(0);
        x.push(1, 5);
        winsOf(x, 0, 1, 1, 2);
        // of 5: MOST here 2, SURE here 1
        winsOf(x, 1, 0, 1, 2);
        due.by("WINS without VALUES");
        x.clear(1);
        winsOf(x, 0, 1, 0, 0);
        winsOf(x, 1, 0, 0, 0);
        x.clear(0);
        winsOf(x, 0, 1, 0, 0);
        due.by("WINS of 1,000 and 1,000");
        x = full();
        for (int i = 0; i < 5; i++) {
            x.draw(1, 200, 1);
        }
        winsOf(x, 1, 0, 1000000, 1000000);
        winsOf(x, 0, 1, 0, 0);
    }

    private static GapRows four(String pushes) {
        return Due.of("ranks error 4;stream a every 60;stream b every 60;stream c every 60;stream d every 60" + pushes);
    }

    private static void wholes() {
        due.by("THE WHOLE: all STREAMS with VALUES");
        String[] names = {"a", "b", "c", "d"};
        for (String name : names) {
            GapRows x = four(";push " + name + " 1 2 3 4");
            due.told(x, "whole(0) of " + name, x.whole(0), 4);
            // BOUND 2 would let one go, but nothing is MERGED
            due.told(x, "whole(1) of " + name, x.whole(1), 4);
            due.told(x, "whole(2) of " + name, x.whole(2), 0);
            due.told(x, "overall(4, 0) of " + name, x.overall(4, 0), 4);
        }
        for (int i = 0; i < 4; i++) {
            for (int j = 0; j < 4; j++) {
                if (i != j) {
                    GapRows x = four(";push " + names[i] + " 1 2;push " + names[j] + " 3 4");
                    due.told(x, "whole(0) of two", x.whole(0), 4);
                    // BOUND 2: 3 goes into 4
                    due.told(x, "whole(1) of two", x.whole(1), 3);
                    due.told(x, "overall(3, 0) of two", x.overall(3, 0), 2);
                    due.told(x, "overall(3, 1) of two", x.overall(3, 1), 1);
                    due.told(x, "COMPRESSIONS", x.about(4), 0);
                    due.told(x, "VALUES stay", x.stream(i, 0), 2);
                }
            }
        }
        wholeOfLikeOnes();
        due.by("whole: 1 (no TEXT, what); 5 (no VALUES)");
        GapRows x = four("");
        for (int what = 0; what <= 2; what++) {
            due.refused(x, "whole(" + what + ")", x.whole(what), 5);
            GapRows none = new GapRows();
            due.refused(none, "whole(" + what + ") without TEXT", none.whole(what), 1);
        }
    }

    /** The second into the first: of like VALUES that of the first comes first, as in merge(). */
    private static void wholeOfLikeOnes() {
        due.by("THE WHOLE: the second MERGED into the first one");
        GapRows x = four(";push a 1 5 5 5 9 9;push c 5");
        x.compress(0);
        due.told(x, "whole(1)", x.whole(1), 4);
        x = four(";push d 1 5 5 5 9 9;push b 5");
        x.compress(3);
        due.told(x, "whole(1) the other way round", x.whole(1), 3);
        due.by("THE WHOLE: COMPRESSED each time");
        x = four(";push a 1 2 3;push b 4 5;push c 6 7 8;push d 9");
        GapRows y = four(";push a 1 2 3;push b 4 5;push c 6 7 8;push d 9");
        y.merge(0, 1);
        y.merge(0, 2);
        y.merge(0, 3);
        due.told(x, "whole(0)", x.whole(0), 9);
        due.told(x, "whole(1)", x.whole(1), y.stream(0, 1));
        due.told(x, "whole(2)", x.whole(2), y.worst(0));
        for (int r = 1; r <= 9; r++) {
            due.told(x, "overall(" + r + ", 0)", x.overall(r, 0), y.answer(0, r, 0));
            due.told(x, "overall(" + r + ", 1)", x.overall(r, 1), y.answer(0, r, 1));
        }
        for (int r : new int[] {LEAST, -1, 0, 10, GREATEST}) {
            due.refused(x, "overall(" + r + ", 0)", x.overall(r, 0), 2);
            due.refused(x, "overall(" + r + ", 2)", x.overall(r, 2), 1);
        }
    }

    public static void main(String[] args) {
        answerAtBothEnds();
        firstOfSeveral();
        halfOfBound();
        toldBesideSorted();
        quotas();
        sureAndMost();
        betweenTwo();
        floorsAndCeilings();
        bars();
        meetings();
        beside();
        heavies();
        aparts();
        winners();
        wholes();
        due.finish();
    }
}
