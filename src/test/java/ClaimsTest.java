import java.util.ArrayList;
import java.util.Collections;
import java.util.List;
import java.util.Random;

/**
 * What the document claims of its own answers: that they are sure, and never off by more than
 * told. The VALUES of each STREAM are kept here, by the acts alone, and looked at sorted; no
 * row is made here, so a wrong reading of how rows are made shows too, if it breaks a claim.
 */
public final class ClaimsTest {
    private static final Due due = new Due();
    private static final int HISTORIES = 90;

    private final Random random;
    private final GapRows x;
    private final List<List<Integer>> all = new ArrayList<>();
    private int seed;

    /** The same history for the same number, so that each claim gets an object and 512 calls of its own. */
    private ClaimsTest(int history) {
        random = new Random(history);
        StringBuilder text = new StringBuilder("ranks error " + (2 + of(39)));
        for (int s = 0; s < 4; s++) {
            text.append(";stream " + (char) ('a' + s) + " every " + (of(2) == 0 ? 1 + of(60) : 1 + of(7)));
            all.add(new ArrayList<>());
        }
        x = Due.of(text.toString());
        seed = of(65537);
        x.seed(seed);
        for (int i = 10 + of(50); i > 0; i--) {
            act();
        }
        for (List<Integer> values : all) {
            Collections.sort(values);
        }
    }

    private int of(int n) {
        return random.nextInt(n);
    }

    private void act() {
        int s = of(4);
        int t = of(4);
        switch (of(12)) {
            case 0:
                x.compress(s);
                break;
            case 1:
                x.every(s, 1 + of(60));
                break;
            case 2:
                x.error(2 + of(39));
                break;
            case 3:
                if (x.merge(s, t) >= 0) {
                    all.get(s).addAll(all.get(t));
                    all.get(t).clear();
                }
                break;
            case 4:
                if (of(4) == 0) {
                    due.same("clear", x.clear(s), all.get(s).size());
                    all.get(s).clear();
                }
                break;
            case 5:
            case 6:
            case 7:
                int v = of(3) == 0 ? of(9) : of(1000);
                if (x.push(s, v) >= 0) {
                    all.get(s).add(v);
                }
                break;
            default:
                drawn(s, 1 + of(of(2) == 0 ? 20 : 200), 1 + of(of(3) == 0 ? 12 : 1000));
        }
    }

    private void drawn(int s, int n, int m) {
        if (x.draw(s, n, m) < 0) {
            due.yes("draw is refused for want of room alone", all.get(s).size() + n > 1000);
            return;
        }
        for (int i = 0; i < n; i++) {
            seed = (75 * seed + 74) % 65537;
            all.get(s).add(seed % m);
        }
    }

    private static int upTo(List<Integer> values, int v) {
        int count = 0;
        for (int w : values) {
            count += w <= v ? 1 : 0;
        }
        return count;
    }

    private void within(String call, int least, int really, int most) {
        due.yes(call + ": " + least + " <= " + really + " <= " + most, least <= really && really <= most);
    }

    // ---- each claim, of an object of its own

    private void rowsAreRight() {
        due.by("The ROW is never wrong; N, SEED and VALUES are those that came");
        due.same("SEED", x.about(5), seed);
        for (int s = 0; s < 4; s++) {
            List<Integer> values = all.get(s);
            due.told(x, "check", x.check(s), 0);
            due.same("N", x.stream(s, 0), values.size());
            due.same("sum", x.sum(s), values.stream().mapToInt(v -> v).sum());
            due.same("unlike VALUES", x.stream(s, 9), values.stream().distinct().count());
            due.same("least", x.stream(s, 6), values.isEmpty() ? -2 : values.get(0));
            due.same("greatest", x.stream(s, 7), values.isEmpty() ? -2 : values.get(values.size() - 1));
            for (int i = 0; i < 20 && !values.isEmpty(); i++) {
                int r = 1 + of(values.size());
                due.told(x, "sorted", x.sorted(s, r), values.get(r - 1));
                int v = values.get(r - 1);
                due.told(x, "times", x.times(s, v), upTo(values, v) - upTo(values, v - 1));
            }
        }
    }

    private void valuesStand(int s) {
        due.by("Were all VALUES sorted, its VALUE would stand at some place from LOW to HIGH");
        List<Integer> values = all.get(s);
        int tuples = Math.min(100, x.stream(s, 1));
        for (int i = 0; i < tuples; i++) {
            int v = x.tuple(s, i, 0);
            int low = x.tuple(s, i, 3);
            int high = x.tuple(s, i, 4);
            int ahead = upTo(values, v - 1);
            int last = upTo(values, v);
            due.yes("TUPLE " + i, last > ahead && ahead < high && last >= low);
        }
    }

    private static int missOf(List<Integer> values, int v, int r) {
        return Math.max(0, Math.max(upTo(values, v - 1) + 1 - r, r - upTo(values, v)));
    }

    private void neverFurtherOff(int s) {
        due.by("OFF: no more than half of BOUND, half a one up; MISS is no more than OFF");
        int n = all.get(s).size();
        int half = (x.stream(s, 2) + 1) / 2;
        int worst = x.worst(s);
        due.yes("worst", worst <= half);
        due.yes("missed", x.missed(s) <= worst);
        for (int i = 0; i < 80 && n > 0; i++) {
            int r = 1 + of(n);
            int off = x.answer(s, r, 1);
            int v = x.answer(s, r, 0);
            due.yes("OFF of " + r, off >= 0 && off <= worst);
            int miss = missOf(all.get(s), v, r);
            due.told(x, "miss of " + r, x.miss(s, r), miss);
            due.yes("MISS of " + r, miss <= off);
        }
    }

    private void countsAreSure(int s) {
        due.by("at least so many VALUES are no greater; at most");
        List<Integer> values = all.get(s);
        for (int i = 0; i < 60; i++) {
            int v = of(1000);
            int w = v + of(1000 - v);
            within("rank of " + v, x.rank(s, v, false), upTo(values, v), x.rank(s, v, true));
            within("between " + v + " and " + w, x.between(s, v, w, false), upTo(values, w) - upTo(values, v - 1),
                x.between(s, v, w, true));
        }
    }

    private void placesLieBetween(int s) {
        due.by("SORTED lies between FLOOR and CEILING");
        List<Integer> values = all.get(s);
        for (int i = 0; i < 100 && !values.isEmpty(); i++) {
            int r = 1 + of(values.size());
            within("bounds of " + r, x.bounds(s, r, 0), values.get(r - 1), x.bounds(s, r, 1));
        }
        within("total", x.total(s, false), x.sum(s), x.total(s, true));
        due.yes("no doubt is wider than all", x.unsure(s, 1) <= 999 && x.unsure(s, 0) <= values.size());
    }

    private void sharesAreSure(int s) {
        due.by("bar(): at least, at most; uneven(): no less than the shares are");
        List<Integer> values = all.get(s);
        int shares = 1 + of(20);
        int greatest = 0;
        int least = 1000;
        for (int k = 0; k < shares && !values.isEmpty(); k++) {
            int from = x.quota(s, k, shares, 0);
            int to = x.quota(s, k + 1, shares, 0);
            int really = upTo(values, to) - upTo(values, from);
            within("bar " + k + " of " + shares, x.bar(s, k, shares, false), really, x.bar(s, k, shares, true));
            greatest = Math.max(greatest, really);
            least = Math.min(least, really);
        }
        due.yes("uneven", values.isEmpty() || x.uneven(s, shares) >= greatest - least);
    }

    private void heavyOnesComeOften(int s) {
        due.by("values that surely come often");
        List<Integer> values = all.get(s);
        int n = 1 + of(100);
        int before = -1;
        for (int i = 0; i < 100; i++) {
            int v = x.heavy(s, n, i);
            if (v < 0) {
                due.same("no more", v, -2);
                return;
            }
            due.yes("the least first", v > before);
            due.yes(v + " comes often", (upTo(values, v) - upTo(values, v - 1)) * n >= values.size());
            before = v;
        }
    }

    private void twoAreSure(int s, int t) {
        due.by("streams that surely lie apart; WINS surely, at most");
        List<Integer> here = all.get(s);
        List<Integer> there = all.get(t);
        int wins = 0;
        int apart = 0;
        for (int v : here) {
            wins += there.size() - upTo(there, v);
        }
        within("wins", x.wins(s, t, false), wins, x.wins(s, t, true));
        if (here.isEmpty() || there.isEmpty()) {
            return;
        }
        for (int v = 0; v <= 999; v++) {
            int more = upTo(here, v) * there.size() - upTo(there, v) * here.size();
            apart = Math.max(apart, Math.abs(more) * 100 / (here.size() * there.size()));
        }
        int surely = x.apart(s, t);
        due.yes("apart", surely >= 0 && surely <= apart);
        due.same("apart, either way", x.apart(t, s), surely);
    }

    private void wholeIsSure() {
        due.by("THE WHOLE: all STREAMS; OFF as of any STREAM");
        List<Integer> values = new ArrayList<>();
        all.forEach(values::addAll);
        if (values.isEmpty() || values.size() > 1000) {
            due.refused(x, "whole", x.whole(0), values.isEmpty() ? 5 : 3);
            return;
        }
        due.told(x, "VALUES", x.whole(0), values.size());
        int half = (Math.max(1, 2 * values.size() / x.about(0)) + 1) / 2;
        due.yes("the greatest OFF", x.whole(2) <= half);
        for (int i = 0; i < 60; i++) {
            int r = 1 + of(values.size());
            int v = x.overall(r, 0);
            int miss = missOf(values, v, r);
            int off = x.overall(r, 1);
            due.yes("overall " + r, miss <= off && off <= x.whole(2));
        }
    }

    /** What would be is what is, once it is done. */
    private void wouldBe(int s, int t) {
        due.by("were it PUSHED, COMPRESSED, MERGED now");
        int v = of(1000);
        int spread = x.spread(s, v);
        int at = 0;
        int tuples = x.stream(s, 1);
        while (at < tuples && x.tuple(s, at, 0) <= v) {
            at++;
        }
        boolean staysLong = x.stream(s, 4) + 1 < x.stream(s, 3);
        if (x.push(s, v) == tuples + 1 && staysLong) {
            due.told(x, "spread of " + v, x.tuple(s, at, 2), spread);
            due.same("the VALUE", x.tuple(s, at, 0), v);
        }
        int would = x.would(s, t);
        int coarse = x.coarse(s, x.about(0));
        int rounds = x.rounds(s);
        int before = x.stream(s, 1);
        int went = x.compress(s);
        due.same("rounds", rounds > 0 ? 1 : 0, went > 0 ? 1 : 0);
        due.same("rounds behind it", x.rounds(s), Math.max(0, rounds - 1));
        due.same("coarse by ERROR itself", coarse, before - went);
        for (int i = 0; i < before - went && i < 60; i++) {
            due.same("goes " + i + " behind COMPRESSION", x.goes(s, i), 0);
        }
        if (would >= 0 && went == 0) {
            due.same("would", x.merge(s, t), would);
        }
    }

    private void finestIsTaken() {
        due.by("finest(): the greatest ERROR; error(): refused by 5 beyond");
        int finest = 40;
        for (int s = 0; s < 4; s++) {
            finest = Math.min(finest, x.finest(s));
        }
        int before = x.about(0);
        due.yes("it is no less than ERROR", finest >= before);
        if (finest < 40) {
            due.refused(x, "error beyond finest", x.error(finest + 1), 5);
        }
        due.told(x, "error by finest", x.error(finest), before);
        for (int s = 0; s < 4; s++) {
            due.same("check", x.check(s), 0);
        }
    }

    private static void claims(int history) {
        new ClaimsTest(history).rowsAreRight();
        new ClaimsTest(history).wholeIsSure();
        new ClaimsTest(history).finestIsTaken();
        for (int s = 0; s < 4; s++) {
            int t = (s + 1 + history % 3) % 4;
            new ClaimsTest(history).valuesStand(s);
            new ClaimsTest(history).neverFurtherOff(s);
            new ClaimsTest(history).countsAreSure(s);
            new ClaimsTest(history).placesLieBetween(s);
            new ClaimsTest(history).sharesAreSure(s);
            new ClaimsTest(history).heavyOnesComeOften(s);
            new ClaimsTest(history).twoAreSure(s, t);
            new ClaimsTest(history).wouldBe(s, t);
        }
    }

    public static void main(String[] args) {
        int from = args.length > 0 ? Integer.parseInt(args[0]) : 0;
        int count = args.length > 1 ? Integer.parseInt(args[1]) : HISTORIES;
        for (int history = from; history < from + count; history++) {
            claims(history);
        }
        due.finish();
    }
}
