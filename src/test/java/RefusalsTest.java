import java.util.ArrayList;
import java.util.Arrays;
import java.util.List;

/**
 * Term IV, and of promises 6 to 47 what each takes and refuses: of every argument the last number that is
 * taken and the first that isn't, on both sides, and the numbers as far out as an int goes; behind a refusal
 * NONE, trouble(), where(), and that nothing changed; of two refusals in one call, which is told.
 *
 * Every call is made on an object whose latest call was refused by 4, so that trouble() and where() show it.
 */
public final class RefusalsTest {
    private static final Due due = new Due();
    private static final int FAR = Integer.MAX_VALUE;
    private static final int PLACES = 11;
    private static final int TUPLES = 5;
    private static final String FAULTY = "ranks error 5;stream ?";

    private interface Call {
        long ask(GapRows x, int[] a);
    }

    /** What an argument may be, and the number that refuses it else. */
    private static final class Arg {
        final int least;
        final int most;
        final int trouble;

        Arg(int least, int most, int trouble) {
            this.least = least;
            this.most = most;
            this.trouble = trouble;
        }

        /** All of them, if they are few. */
        List<Integer> taken() {
            if (most - least > 12) {
                return List.of(least, least + 1, most - 1, most);
            }
            List<Integer> numbers = new ArrayList<>();
            for (int number = least; number <= most; number++) {
                numbers.add(number);
            }
            return numbers;
        }

        List<Integer> refused() {
            List<Integer> numbers = new ArrayList<>();
            numbers.add(Integer.MIN_VALUE);
            numbers.add(least - 1);
            if (most < FAR) {
                numbers.add(most + 1);
                numbers.add(FAR);
            }
            return numbers;
        }
    }

    private static final class Case {
        final String name;
        final Call call;
        final int[] good;
        final Arg[] args;
        final boolean acts;

        Case(String name, boolean acts, int[] good, Call call, Arg... args) {
            this.name = name;
            this.acts = acts;
            this.good = good;
            this.call = call;
            this.args = args;
        }

        boolean ofTwo() {
            return args.length > 1 && args[0] == args[1];
        }

        /** The good arguments with another i-th one; of two STREAMS the other stays an unlike one. */
        int[] with(int i, int number) {
            int[] a = good.clone();
            a[i] = number;
            if (ofTwo() && i < 2) {
                a[1 - i] = number == 0 ? 1 : 0;
            }
            return a;
        }
    }

    private static final List<Case> cases = new ArrayList<>();

    private static void tells(String name, int[] good, Call call, Arg... args) {
        cases.add(new Case(name, false, good, call, args));
    }

    private static void acts(String name, int[] good, Call call, Arg... args) {
        cases.add(new Case(name, true, good, call, args));
    }

    private static int[] of(int... numbers) {
        return numbers;
    }

    private static Arg what(int most) {
        return new Arg(0, most, 1);
    }

    private static Arg number(int least, int most) {
        return new Arg(least, most, 2);
    }

    private static void fillCases(int streams) {
        cases.clear();
        Arg s = new Arg(0, streams - 1, 1);
        Arg value = number(0, 999);
        Arg place = number(1, PLACES);
        Arg shares = number(1, 100);
        tells("about", of(0), (x, a) -> x.about(a[0]), what(5));
        tells("stream", of(0, 0), (x, a) -> x.stream(a[0], a[1]), s, what(9));
        tells("tuple", of(0, 0, 0), (x, a) -> x.tuple(a[0], a[1], a[2]), s, what(TUPLES - 1), what(6));
        tells("goes", of(0, 1), (x, a) -> x.goes(a[0], a[1]), s, what(TUPLES - 1));
        tells("check", of(0), (x, a) -> x.check(a[0]), s);
        tells("answer", of(0, 3, 0), (x, a) -> x.answer(a[0], a[1], a[2]), s, place, what(2));
        tells("quota", of(0, 0, 7, 0), (x, a) -> x.quota(a[0], a[1], a[2], a[3]), s, number(0, 7), shares, what(2));
        tells("exact", of(0), (x, a) -> x.exact(a[0]), s);
        tells("worst", of(0), (x, a) -> x.worst(a[0]), s);
        tells("bounds", of(0, 3, 0), (x, a) -> x.bounds(a[0], a[1], a[2]), s, place, what(1));
        tells("unsure", of(0, 0), (x, a) -> x.unsure(a[0], a[1]), s, what(1));
        tells("bands", of(0, 3), (x, a) -> x.bands(a[0], a[1]), s, number(0, 12));
        tells("uneven", of(0, 3), (x, a) -> x.uneven(a[0], a[1]), s, shares);
        tells("sum", of(0), (x, a) -> x.sum(a[0]), s);
        tells("sorted", of(0, 3), (x, a) -> x.sorted(a[0], a[1]), s, place);
        tells("times", of(0, 3), (x, a) -> x.times(a[0], a[1]), s, value);
        tells("miss", of(0, 3), (x, a) -> x.miss(a[0], a[1]), s, place);
        tells("missed", of(0), (x, a) -> x.missed(a[0]), s);
        tells("heavy", of(0, 9, 0), (x, a) -> x.heavy(a[0], a[1], a[2]), s, shares, what(FAR));
        tells("whole", of(0), (x, a) -> x.whole(a[0]), what(2));
        tells("overall", of(1, 0), (x, a) -> x.overall(a[0], a[1]), number(1, PLACES * streams), what(1));
        tells("rounds", of(0), (x, a) -> x.rounds(a[0]), s);
        tells("coarse", of(0, 3), (x, a) -> x.coarse(a[0], a[1]), s, number(2, 5));
        tells("spread", of(0, 3), (x, a) -> x.spread(a[0], a[1]), s, value);
        tells("finest", of(0), (x, a) -> x.finest(a[0]), s);
        for (boolean most : new boolean[] {false, true}) {
            tells("rank " + most, of(0, 3), (x, a) -> x.rank(a[0], a[1], most), s, value);
            tells("between " + most, of(0, 500, 500), (x, a) -> x.between(a[0], a[1], a[2], most),
                s, number(0, 500), number(500, 999));
            tells("total " + most, of(0), (x, a) -> x.total(a[0], most), s);
            tells("bar " + most, of(0, 0, 7), (x, a) -> x.bar(a[0], a[1], a[2], most), s, number(0, 6), shares);
        }
        if (streams > 1) {
            fillCasesOfTwo(s, shares);
        }
        acts("push", of(0, 3), (x, a) -> x.push(a[0], a[1]), s, value);
        acts("draw", of(0, 3, 5), (x, a) -> x.draw(a[0], a[1], a[2]), s, number(1, 200), number(1, 1000));
        acts("compress", of(0), (x, a) -> x.compress(a[0]), s);
        acts("clear", of(0), (x, a) -> x.clear(a[0]), s);
        acts("every", of(0, 3), (x, a) -> x.every(a[0], a[1]), s, number(1, 60));
    }

    private static void fillCasesOfTwo(Arg s, Arg shares) {
        tells("meets", of(0, 1, 3, 0), (x, a) -> x.meets(a[0], a[1], a[2], a[3]), s, s, shares, what(2));
        tells("apart", of(0, 1), (x, a) -> x.apart(a[0], a[1]), s, s);
        tells("would", of(0, 1), (x, a) -> x.would(a[0], a[1]), s, s);
        tells("wins false", of(0, 1), (x, a) -> x.wins(a[0], a[1], false), s, s);
        tells("wins true", of(0, 1), (x, a) -> x.wins(a[0], a[1], true), s, s);
        acts("merge", of(0, 1), (x, a) -> x.merge(a[0], a[1]), s, s);
    }

    /** Those that need no TEXT. */
    private static void fillCasesWithoutText() {
        cases.clear();
        tells("band", of(3, 5), (x, a) -> x.band(a[0], a[1]), number(0, 999), number(1, 1000));
        acts("seed", of(3), (x, a) -> x.seed(a[0]) ? 1 : GapRows.NONE, number(0, 65536));
    }

    /** Its latest call was ranks(), refused by 4; twenty bytes lie on THE TAPE. */
    private static GapRows afterFault(GapRows x) {
        x.seed(77);
        due.same("a faulty TEXT", Due.put(x, FAULTY), GapRows.NONE);
        due.same("trouble() of it", x.trouble(), 4);
        due.same("where() of it", x.where(), FAULTY.length() - 1);
        due.same("feed", x.feed(1, 2, 3, 4, 5), 20);
        return x;
    }

    private static String textOf(int streams, String pushes) {
        StringBuilder text = new StringBuilder("ranks error 5");
        for (int s = 0; s < streams; s++) {
            char name = (char) ('a' + s);
            text.append(";stream ").append(name).append(" every 60");
            if (!pushes.isEmpty()) {
                text.append(";push ").append(name).append(pushes);
            }
        }
        return text.toString();
    }

    /** So many STREAMS, each with the ROW 10 (1, 0), 20 (1, 0), 35 (1, 3), 60 (4, 0), 100 (4, 0). */
    private static GapRows withValues(int streams) {
        GapRows x = Due.of(textOf(streams, " 10 20 30 40 50 60 70 80 90 100"));
        for (int s = 0; s < streams; s++) {
            x.compress(s);
            x.push(s, 35);
        }
        return afterFault(x);
    }

    private static GapRows withoutText() {
        return afterFault(new GapRows());
    }

    private static GapRows withoutValues(int streams) {
        return afterFault(Due.of(textOf(streams, "")));
    }

    private static GapRows full(int streams) {
        GapRows x = Due.of(textOf(streams, ""));
        for (int s = 0; s < streams; s++) {
            for (int i = 0; i < 5; i++) {
                x.draw(s, 200, 1000);
            }
        }
        return afterFault(x);
    }

    /** All that can be told of an object; it takes fewer calls than an object has left. */
    private static int[] told(GapRows x) {
        List<Integer> told = new ArrayList<>(List.of(x.fault(), x.size()));
        for (int what = 0; what <= 5; what++) {
            told.add(x.about(what));
        }
        for (int s = 0; s < 4; s++) {
            for (int what = 0; what <= 9; what++) {
                told.add(x.stream(s, what));
            }
            told.add(x.sum(s));
            for (int i = 0; i < 3 * TUPLES; i++) {
                told.add(x.tuple(s, i / 3, i % 3));
            }
            for (int r = 1; r <= PLACES; r++) {
                told.add(x.sorted(s, r));
            }
        }
        return told.stream().mapToInt(Integer::intValue).toArray();
    }

    private static void stays(String call, GapRows x, GapRows twin) {
        due.yes(call + ": nothing changed", Arrays.equals(told(x), told(twin)));
    }

    private static void refused(Case c, GapRows x, GapRows twin, int[] a, int trouble) {
        String call = c.name + Arrays.toString(a);
        due.refused(x, call, c.call.ask(x, a), trouble);
        stays(call, x, twin);
    }

    private static void taken(Case c, GapRows x, GapRows twin, int[] a) {
        String call = c.name + Arrays.toString(a);
        due.yes(call + " is taken", c.call.ask(x, a) != GapRows.NONE);
        due.same(call + ", trouble()", x.trouble(), 0);
        due.same(call + ", where()", x.where(), GapRows.NONE);
        if (!c.acts) {
            stays(call, x, twin);
        }
    }

    private static GapRows madeFor(int streams) {
        return streams == 0 ? withoutText() : withValues(streams);
    }

    private static void eachArgument(int streams) {
        due.by("the last that is taken, the first that isn't, of " + streams + " STREAMS");
        for (Case c : cases) {
            taken(c, madeFor(streams), madeFor(streams), c.good);
            for (int i = 0; i < c.args.length; i++) {
                for (int number : c.args[i].taken()) {
                    taken(c, madeFor(streams), madeFor(streams), c.with(i, number));
                }
                for (int number : c.args[i].refused()) {
                    refused(c, madeFor(streams), madeFor(streams), c.with(i, number), c.args[i].trouble);
                }
            }
        }
    }

    /** All these calls tell 1 ahead of 2. */
    private static void twoRefusals(int streams) {
        due.by("Refusals are met in the order in which a call tells them, of " + streams + " STREAMS");
        for (Case c : cases) {
            for (int i = 0; i < c.args.length; i++) {
                for (int j = i + 1; j < c.args.length; j++) {
                    for (int first : c.args[i].refused()) {
                        for (int second : c.args[j].refused()) {
                            int[] a = c.good.clone();
                            a[i] = first;
                            a[j] = second;
                            int trouble = Math.min(c.args[i].trouble, c.args[j].trouble);
                            refused(c, madeFor(streams), madeFor(streams), a, trouble);
                        }
                    }
                }
            }
        }
    }

    private static void unlikeStreams() {
        due.by("1 (unlike STREAMS)");
        for (Case c : cases) {
            if (c.ofTwo()) {
                for (int s = 0; s < 4; s++) {
                    int[] a = c.good.clone();
                    a[0] = s;
                    a[1] = s;
                    refused(c, withValues(4), withValues(4), a, 1);
                    refused(c, withoutValues(4), withoutValues(4), a, 1);
                    refused(c, full(4), full(4), a, 1);
                    for (int i = 2; i < a.length; i++) {
                        a[i] = -1;
                        refused(c, withValues(4), withValues(4), a, 1);
                    }
                }
            }
        }
    }

    private static void noText() {
        due.by("1 there is none such (no TEXT)");
        for (Case c : cases) {
            refused(c, withoutText(), withoutText(), c.good, 1);
            for (int i = 0; i < c.args.length; i++) {
                for (int number : c.args[i].refused()) {
                    refused(c, withoutText(), withoutText(), c.with(i, number), 1);
                }
            }
        }
        for (int n : new int[] {Integer.MIN_VALUE, 1, 2, 5, 40, 41, FAR}) {
            GapRows x = withoutText();
            due.refused(x, "error(" + n + ")", x.error(n), 1);
            stays("error(" + n + ")", x, withoutText());
        }
    }

    /** What is due of STREAMS without VALUES: an answer, or the number that refuses, less 10. */
    private static int dueWithoutValues(String name) {
        switch (name.split(" ")[0]) {
            case "about":
                return 5;
            case "tuple":
            case "goes":
                return 1 - 10;
            case "answer":
            case "bounds":
            case "sorted":
            case "miss":
                return 2 - 10;
            case "quota":
            case "bar":
            case "uneven":
            case "meets":
            case "apart":
            case "whole":
            case "overall":
                return 5 - 10;
            case "worst":
            case "missed":
            case "heavy":
                return -2;
            case "finest":
                return 40;
            case "push":
                return 1;
            case "draw":
                return 3;
            default:
                return 0;
        }
    }

    private static void noValues(int streams) {
        due.by("no VALUES in " + streams + " STREAMS");
        for (Case c : cases) {
            int want = dueWithoutValues(c.name);
            GapRows x = withoutValues(streams);
            if (want < -2) {
                refused(c, x, withoutValues(streams), c.good, want + 10);
            } else {
                due.told(x, c.name, c.call.ask(x, c.good), want);
                if (!c.acts) {
                    stays(c.name, x, withoutValues(streams));
                }
            }
        }
    }

    /** What a call tells ahead of "no VALUES" or "no room" is met ahead of it; overall() tells its place last. */
    private static void stateAndArgument(boolean isFull, String names, int stateTrouble) {
        due.by(isFull ? "a refusal and 3 (no room)" : "a refusal and 5 (no VALUES)");
        for (Case c : cases) {
            if (!c.name.split(" ")[0].matches(names)) {
                continue;
            }
            refused(c, isFull ? full(4) : withoutValues(4), isFull ? full(4) : withoutValues(4), c.good, stateTrouble);
            for (int i = 0; i < c.args.length; i++) {
                boolean later = c.name.equals("overall") && i == 0;
                int trouble = later ? stateTrouble : c.args[i].trouble;
                for (int number : c.args[i].refused()) {
                    GapRows x = isFull ? full(4) : withoutValues(4);
                    refused(c, x, isFull ? full(4) : withoutValues(4), c.with(i, number), trouble);
                }
            }
        }
    }

    /** Each STREAM has 11 VALUES and a TUPLE with GAP and SPREAD of 4, which is BOUND by 5. */
    private static void errors(int streams) {
        due.by("error(): 1 (no TEXT); 2; 5, of " + streams + " STREAMS");
        for (int n : new int[] {Integer.MIN_VALUE, 1, 41, FAR}) {
            GapRows x = withValues(streams);
            due.refused(x, "error(" + n + ")", x.error(n), 2);
            stays("error(" + n + ")", x, withValues(streams));
        }
        for (int n = 6; n <= 40; n++) {
            GapRows x = withValues(streams);
            due.refused(x, "error(" + n + ")", x.error(n), 5);
            stays("error(" + n + ")", x, withValues(streams));
        }
        for (int n = 2; n <= 5; n++) {
            GapRows x = withValues(streams);
            due.told(x, "error(" + n + ")", x.error(n), 5);
            due.told(x, "ERROR", x.about(0), n);
        }
        GapRows x = withoutValues(streams);
        due.told(x, "error(40) without VALUES", x.error(40), 5);
        due.told(x, "error(2) without VALUES", x.error(2), 40);
        due.refused(x, "error(1) without VALUES", x.error(1), 2);
        due.refused(x, "error(41) without VALUES", x.error(41), 2);
        due.told(x, "ERROR", x.about(0), 2);
    }

    /** The calls of which no number is told. */
    private static void leaveTrouble() {
        due.by("TROUBLE of the latest call that may be refused (those of which a number is told here)");
        GapRows x = new GapRows();
        due.same("trouble() of a new object", x.trouble(), 0);
        x = withValues(2);
        for (int round = 0; round < 2; round++) {
            due.noIdle(x, 0);
            due.same("trouble() behind idle()", x.trouble(), 4);
            due.same("where() behind idle()", x.where(), FAULTY.length() - 1);
            x.size();
            x.fault();
            due.same("trouble() behind what is told", x.trouble(), 4);
            due.same("where() behind what is told", x.where(), FAULTY.length() - 1);
            x.feed(0, 0, 0, 0, 0);
            due.same("trouble() behind feed()", x.trouble(), 4);
            due.same("where() behind feed()", x.where(), FAULTY.length() - 1);
        }
        while (x.size() < 400) {
            x.feed(0, 0, 0, 0, 0);
        }
        due.same("feed beyond 400", x.feed(0, 0, 0, 0, 0), GapRows.NONE);
        due.same("trouble() behind feed beyond 400", x.trouble(), 4);
        due.same("where() behind feed beyond 400", x.where(), FAULTY.length() - 1);
        x.clear(0);
        due.same("trouble() of a call that wasn't refused", x.trouble(), 0);
        due.same("idle(0)", x.idle(0), 0);
        due.same("trouble() behind it", x.trouble(), 0);
    }

    public static void main(String[] args) {
        fillCasesWithoutText();
        eachArgument(0);
        twoRefusals(0);
        eachArgument(2);
        for (int streams = 1; streams <= 4; streams++) {
            fillCases(streams);
            eachArgument(streams);
            twoRefusals(streams);
            noValues(streams);
            errors(streams);
        }
        noText();
        unlikeStreams();
        stateAndArgument(false, "quota|bar|uneven|meets|apart|whole|overall", 5);
        stateAndArgument(true, "push|draw|merge|would|whole|overall", 3);
        leaveTrouble();
        due.finish();
    }
}
