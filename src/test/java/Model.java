import java.util.ArrayList;
import java.util.Collections;
import java.util.List;
import java.util.NoSuchElementException;
import java.util.TreeSet;
import java.util.regex.Matcher;
import java.util.regex.Pattern;

/**
 * The document once more, word by word and without any thought of speed: TUPLES in lists
 * with GAPS as they are told, all VALUES beside, each place looked at by itself. It has the
 * face of GapRows, so that ModelTest can ask both the same.
 */
final class Model {
    private static final class Tuple {
        final int value;
        int gap;
        int spread;
        final int from;

        Tuple(int value, int gap, int spread, int from) {
            this.value = value;
            this.gap = gap;
            this.spread = spread;
            this.from = from;
        }
    }

    private static final class Stream {
        int every;
        int since;
        int compressions;
        List<Integer> values = new ArrayList<>();
        List<Tuple> row = new ArrayList<>();

        int n() {
            return values.size();
        }

        Stream copy() {
            Stream copy = new Stream();
            copy.every = every;
            copy.since = since;
            copy.compressions = compressions;
            copy.values.addAll(values);
            for (Tuple t : row) {
                copy.row.add(new Tuple(t.value, t.gap, t.spread, 0));
            }
            return copy;
        }
    }

    private static final class Token {
        final int place;
        final String text;

        Token(int place, String text) {
            this.place = place;
            this.text = text;
        }

        boolean isWord() {
            return text.matches("[a-z]{1,6}");
        }

        boolean isWhole() {
            return text.matches("[0-9]{1,3}");
        }

        boolean isName() {
            return isWord() && !text.matches("ranks|stream|push");
        }
    }

    private final StringBuilder tape = new StringBuilder();
    private List<Stream> streams = new ArrayList<>();
    private int error = 0;
    private int seed = 1;
    private int trouble = 0;
    private int fault = 0;
    private int place = -1;

    private int no(int number) {
        trouble = number;
        return -1;
    }

    private int yes(int answer) {
        trouble = 0;
        return answer;
    }

    private Stream at(int s) {
        return s < 0 || s >= streams.size() ? null : streams.get(s);
    }

    private boolean none(int s) {
        return at(s) == null;
    }

    private boolean noPair(int s, int t) {
        return none(s) || none(t) || s == t;
    }

    // ---- the text

    int feed(int a, int b, int c, int d, int e) {
        if (tape.length() > 380) {
            return -1;
        }
        for (int number : new int[] {a, b, c, d, e}) {
            for (int i = 3; i >= 0; i--) {
                tape.append((char) (number >> 8 * i & 255));
            }
        }
        return tape.length();
    }

    int ranks(int n) {
        if (n < 0 || n > tape.length()) {
            return no(2);
        }
        String text = tape.substring(0, n);
        tape.setLength(0);
        List<Token> tokens = new ArrayList<>();
        Matcher m = Pattern.compile("[a-z]+|[0-9]+|[^ ]", Pattern.DOTALL).matcher(text);
        while (m.find()) {
            tokens.add(new Token(m.start(), m.group()));
        }
        int form = formFault(tokens, n);
        int[] first = otherFault(tokens, form, n);
        if (form >= 0 && (first == null || form <= first[0])) {
            first = new int[] {form, 1};
        }
        fault = first == null ? 0 : first[1];
        if (first != null) {
            place = first[0];
            return no(4);
        }
        take(tokens);
        return yes(streams.size());
    }

    /** The place at which no TEXT goes on, by a little machine with a state for what is due; -1 without. */
    private static int formFault(List<Token> tokens, int n) {
        String state = "line";
        for (Token t : tokens) {
            String next = nextState(state, t);
            if (next == null) {
                return t.place;
            }
            state = next;
        }
        return state.equals("end") || state.equals("more") ? -1 : n;
    }

    private static String nextState(String state, Token t) {
        switch (state) {
            case "line":
                return t.text.matches("ranks|stream|push") ? t.text : null;
            case "ranks":
                return t.text.equals("error") ? "number" : null;
            case "stream":
                return t.isName() ? "named" : null;
            case "named":
                return t.text.equals("every") ? "number" : null;
            case "number":
                return t.isWhole() ? "end" : null;
            case "push":
                return t.isName() ? "values" : null;
            case "values":
                return t.isWhole() ? "more" : null;
            case "more":
                return t.isWhole() ? "more" : t.text.equals(";") ? "line" : null;
            default:
                return t.text.equals(";") ? "line" : null;
        }
    }

    /** The first FAULT of the others that lies ahead of where the form breaks. */
    private static int[] otherFault(List<Token> tokens, int form, int n) {
        List<String> names = new ArrayList<>();
        boolean ranks = false;
        int told = 0;
        for (int i = 0; i < tokens.size(); i++) {
            Token t = tokens.get(i);
            if (form >= 0 && t.place >= form) {
                return null;
            }
            boolean begins = i == 0 || tokens.get(i - 1).text.equals(";");
            String before = i == 0 ? "" : tokens.get(i - 1).text;
            boolean second = i == 1 || i > 1 && tokens.get(i - 2).text.equals(";");
            if (begins && t.text.equals("ranks")) {
                if (ranks) {
                    return new int[] {t.place, 4};
                }
                ranks = true;
            } else if (begins) {
                if (!ranks) {
                    return new int[] {t.place, 6};
                }
                if (t.text.equals("stream") && ++told > 4) {
                    return new int[] {t.place, 5};
                }
            } else if (second && before.equals("stream")) {
                if (names.contains(t.text)) {
                    return new int[] {t.place, 3};
                }
                names.add(t.text);
            } else if (second && before.equals("push")) {
                if (!names.contains(t.text)) {
                    return new int[] {t.place, 3};
                }
            } else if (t.isWhole() && isOut(tokens, i)) {
                return new int[] {t.place, 2};
            }
        }
        return form < 0 && told == 0 ? new int[] {n, 6} : null;
    }

    private static boolean isOut(List<Token> tokens, int i) {
        int number = Integer.parseInt(tokens.get(i).text);
        int line = i;
        while (line > 0 && !tokens.get(line - 1).text.equals(";")) {
            line--;
        }
        String word = tokens.get(line).text;
        if (word.equals("ranks")) {
            return number < 2 || number > 40;
        }
        return word.equals("stream") && (number < 1 || number > 60);
    }

    private void take(List<Token> tokens) {
        streams = new ArrayList<>();
        List<String> names = new ArrayList<>();
        for (int i = 0; i < tokens.size(); i++) {
            if (i > 0 && !tokens.get(i - 1).text.equals(";")) {
                continue;
            }
            String word = tokens.get(i).text;
            if (word.equals("ranks")) {
                error = Integer.parseInt(tokens.get(i + 2).text);
            } else if (word.equals("stream")) {
                Stream s = new Stream();
                s.every = Integer.parseInt(tokens.get(i + 3).text);
                streams.add(s);
                names.add(tokens.get(i + 1).text);
            } else {
                Stream s = streams.get(names.indexOf(tokens.get(i + 1).text));
                for (int j = i + 2; j < tokens.size() && tokens.get(j).isWhole(); j++) {
                    pushTo(s, Integer.parseInt(tokens.get(j).text));
                }
            }
        }
    }

    int fault() {
        return fault;
    }

    int where() {
        return trouble == 4 ? place : -1;
    }

    // ---- terms

    private static int bound(int n, int error) {
        int bound = 2 * n / error;
        return bound < 1 ? 1 : bound;
    }

    private static int bandBy(int d, int b) {
        int power = 1;
        for (int k = 0; ; k++) {
            if (d > b - power - b % power) {
                return k;
            }
            power *= 2;
        }
    }

    private static int low(List<Tuple> row, int i) {
        int low = 0;
        for (int j = 0; j <= i; j++) {
            low += row.get(j).gap;
        }
        return low;
    }

    private static int high(List<Tuple> row, int i) {
        return low(row, i) + row.get(i).spread;
    }

    private static int spreadOf(List<Tuple> row, int v) {
        int at = 0;
        while (at < row.size() && row.get(at).value <= v) {
            at++;
        }
        if (at == 0 || at == row.size()) {
            return 0;
        }
        return row.get(at).gap + row.get(at).spread - 1;
    }

    private void pushTo(Stream s, int v) {
        int at = 0;
        while (at < s.row.size() && s.row.get(at).value <= v) {
            at++;
        }
        s.row.add(at, new Tuple(v, 1, spreadOf(s.row, v), 0));
        s.values.add(v);
        s.since++;
        if (s.since == s.every) {
            compressBy(s, error);
        }
    }

    private static int family(List<Tuple> row, int i, int b) {
        int own = bandBy(row.get(i).spread, b);
        int count = 1;
        for (int j = i - 1; j > 0; j--) {
            if (bandBy(row.get(j).spread, b) >= own) {
                break;
            }
            count++;
        }
        return count;
    }

    private static boolean could(List<Tuple> row, int i, int b) {
        if (i < 1 || i > row.size() - 2) {
            return false;
        }
        Tuple behind = row.get(i + 1);
        if (bandBy(row.get(i).spread, b) > bandBy(behind.spread, b)) {
            return false;
        }
        int gaps = 0;
        for (int j = 0; j < family(row, i, b); j++) {
            gaps += row.get(i - j).gap;
        }
        return gaps + behind.gap + behind.spread <= b;
    }

    private static int compressBy(Stream s, int error) {
        int b = bound(s.n(), error);
        int before = s.row.size();
        int i = s.row.size() - 2;
        while (i >= 1) {
            if (could(s.row, i, b)) {
                Tuple behind = s.row.get(i + 1);
                int count = family(s.row, i, b);
                for (int j = 0; j < count; j++) {
                    behind.gap += s.row.remove(i - j).gap;
                }
                i -= count;
            } else {
                i--;
            }
        }
        s.compressions++;
        s.since = 0;
        return before - s.row.size();
    }

    private static void mergeInto(Stream s, Stream t, int error) {
        List<Tuple> both = new ArrayList<>();
        for (Tuple x : s.row) {
            both.add(new Tuple(x.value, x.gap, x.spread, 1));
        }
        for (Tuple x : t.row) {
            both.add(new Tuple(x.value, x.gap, x.spread, 2));
        }
        both.sort((x, y) -> x.value != y.value ? x.value - y.value : x.from - y.from);
        List<Tuple> row = new ArrayList<>();
        for (int i = 0; i < both.size(); i++) {
            Tuple x = both.get(i);
            int more = 0;
            for (int j = i + 1; j < both.size(); j++) {
                if (both.get(j).from != x.from) {
                    more = both.get(j).gap + both.get(j).spread - 1;
                    break;
                }
            }
            row.add(new Tuple(x.value, x.gap, x.spread + more, 0));
        }
        s.row = row;
        s.values.addAll(t.values);
        compressBy(s, error);
        t.row.clear();
        t.values.clear();
        t.since = 0;
    }

    private static int offAt(List<Tuple> row, int i, int r) {
        return Math.max(r - low(row, i), high(row, i) - r);
    }

    private static int answerTo(List<Tuple> row, int r) {
        int best = 0;
        for (int i = 0; i < row.size(); i++) {
            if (offAt(row, i, r) < offAt(row, best, r)) {
                best = i;
            }
        }
        return best;
    }

    private static int sure(Stream s, int v) {
        int sure = 0;
        for (int i = 0; i < s.row.size(); i++) {
            if (s.row.get(i).value <= v) {
                sure = low(s.row, i);
            }
        }
        return sure;
    }

    private static int most(Stream s, int v) {
        for (int i = 0; i < s.row.size(); i++) {
            if (s.row.get(i).value > v) {
                return high(s.row, i) - 1;
            }
        }
        return s.n();
    }

    private static int quotaOf(Stream s, int k, int n) {
        int r = 0;
        while (r * n < s.n() * k) {
            r++;
        }
        return r < 1 ? 1 : r;
    }

    private static int floorOf(Stream s, int r) {
        int floor = -1;
        for (int i = 0; i < s.row.size(); i++) {
            if (high(s.row, i) <= r) {
                floor = s.row.get(i).value;
            }
        }
        return floor;
    }

    private static int ceilingOf(Stream s, int r) {
        for (int i = 0; i < s.row.size(); i++) {
            if (low(s.row, i) >= r) {
                return s.row.get(i).value;
            }
        }
        return -1;
    }

    private static int answerValue(Stream s, int r) {
        return s.row.get(answerTo(s.row, r)).value;
    }

    private static int sortedAt(Stream s, int r) {
        List<Integer> sorted = new ArrayList<>(s.values);
        Collections.sort(sorted);
        return sorted.get(r - 1);
    }

    private static int missOf(Stream s, int r) {
        List<Integer> sorted = new ArrayList<>(s.values);
        Collections.sort(sorted);
        int v = answerValue(s, r);
        int first = sorted.indexOf(v) + 1;
        int last = sorted.lastIndexOf(v) + 1;
        return r < first ? first - r : r > last ? r - last : 0;
    }

    private static int widest(Stream s) {
        int widest = 0;
        for (Tuple t : s.row) {
            widest = Math.max(widest, t.gap + t.spread);
        }
        return widest;
    }

    private static int worstOf(Stream s) {
        int worst = -2;
        for (int r = 1; r <= s.n(); r++) {
            worst = Math.max(worst, offAt(s.row, answerTo(s.row, r), r));
        }
        return worst;
    }

    // ---- the calls

    int about(int what) {
        if (streams.isEmpty() || what < 0 || what > 5) {
            return no(1);
        }
        int[] all = new int[3];
        for (Stream s : streams) {
            all[0] += s.n();
            all[1] += s.row.size();
            all[2] += s.compressions;
        }
        return yes(new int[] {error, streams.size(), all[0], all[1], all[2], seed}[what]);
    }

    int stream(int s, int what) {
        if (none(s) || what < 0 || what > 9) {
            return no(1);
        }
        Stream x = at(s);
        int least = x.n() == 0 ? -2 : Collections.min(x.values);
        int greatest = x.n() == 0 ? -2 : Collections.max(x.values);
        return yes(new int[] {x.n(), x.row.size(), bound(x.n(), error), x.every, x.since, x.compressions, least,
            greatest, widest(x), new TreeSet<>(x.values).size()}[what]);
    }

    int tuple(int s, int i, int what) {
        if (none(s) || i < 0 || i >= at(s).row.size() || what < 0 || what > 6) {
            return no(1);
        }
        List<Tuple> row = at(s).row;
        Tuple t = row.get(i);
        int b = bound(at(s).n(), error);
        return yes(new int[] {t.value, t.gap, t.spread, low(row, i), high(row, i), bandBy(t.spread, b),
            family(row, i, b)}[what]);
    }

    int goes(int s, int i) {
        if (none(s) || i < 0 || i >= at(s).row.size()) {
            return no(1);
        }
        return yes(could(at(s).row, i, bound(at(s).n(), error)) ? 1 : 0);
    }

    int band(int spread, int bound) {
        if (spread < 0 || spread > 999 || bound < 1 || bound > 1000) {
            return no(2);
        }
        return yes(bandBy(spread, bound));
    }

    int check(int s) {
        if (none(s)) {
            return no(1);
        }
        List<Tuple> row = at(s).row;
        int sum = 0;
        int last = 0;
        boolean[] wrong = new boolean[6];
        for (Tuple t : row) {
            wrong[1] |= t.value < last;
            wrong[2] |= t.gap < 1 || t.spread < 0;
            wrong[4] |= t.gap + t.spread > bound(at(s).n(), error);
            last = t.value;
            sum += t.gap;
        }
        wrong[3] = sum != at(s).n();
        wrong[5] = !row.isEmpty() && (row.get(0).gap != 1 || row.get(0).spread != 0
            || row.get(row.size() - 1).spread != 0);
        for (int i = 1; i <= 5; i++) {
            if (wrong[i]) {
                return yes(i);
            }
        }
        return yes(0);
    }

    int answer(int s, int r, int what) {
        if (none(s) || what < 0 || what > 2) {
            return no(1);
        }
        if (r < 1 || r > at(s).n()) {
            return no(2);
        }
        int i = answerTo(at(s).row, r);
        return yes(new int[] {at(s).row.get(i).value, offAt(at(s).row, i, r), i}[what]);
    }

    int quota(int s, int k, int n, int what) {
        if (none(s) || what < 0 || what > 2) {
            return no(1);
        }
        if (n < 1 || n > 100 || k < 0 || k > n) {
            return no(2);
        }
        if (at(s).n() == 0) {
            return no(5);
        }
        int r = quotaOf(at(s), k, n);
        return what == 2 ? yes(r) : answer(s, r, what);
    }

    int rank(int s, int v, boolean most) {
        if (none(s)) {
            return no(1);
        }
        if (v < 0 || v > 999) {
            return no(2);
        }
        return yes(most ? most(at(s), v) : sure(at(s), v));
    }

    private static int from(Stream s, int v, int w, boolean most) {
        if (most) {
            return most(s, w) - (v == 0 ? 0 : sure(s, v - 1));
        }
        return Math.max(0, sure(s, w) - (v == 0 ? 0 : most(s, v - 1)));
    }

    int between(int s, int v, int w, boolean most) {
        if (none(s)) {
            return no(1);
        }
        if (v < 0 || v > 999 || w < 0 || w > 999 || w < v) {
            return no(2);
        }
        return yes(from(at(s), v, w, most));
    }

    int exact(int s) {
        if (none(s)) {
            return no(1);
        }
        int count = 0;
        for (int r = 1; r <= at(s).n(); r++) {
            count += offAt(at(s).row, answerTo(at(s).row, r), r) == 0 ? 1 : 0;
        }
        return yes(count);
    }

    int worst(int s) {
        return none(s) ? no(1) : yes(worstOf(at(s)));
    }

    int bounds(int s, int r, int what) {
        if (none(s) || what < 0 || what > 1) {
            return no(1);
        }
        if (r < 1 || r > at(s).n()) {
            return no(2);
        }
        return yes(what == 0 ? floorOf(at(s), r) : ceilingOf(at(s), r));
    }

    int unsure(int s, int what) {
        if (none(s) || what < 0 || what > 1) {
            return no(1);
        }
        int count = 0;
        int widest = 0;
        for (int r = 1; r <= at(s).n(); r++) {
            int doubt = ceilingOf(at(s), r) - floorOf(at(s), r);
            count += doubt != 0 ? 1 : 0;
            widest = Math.max(widest, doubt);
        }
        return yes(what == 0 ? count : widest);
    }

    int total(int s, boolean most) {
        if (none(s)) {
            return no(1);
        }
        int sum = 0;
        for (int r = 1; r <= at(s).n(); r++) {
            sum += most ? ceilingOf(at(s), r) : floorOf(at(s), r);
        }
        return yes(sum);
    }

    int bands(int s, int k) {
        if (none(s)) {
            return no(1);
        }
        if (k < 0 || k > 12) {
            return no(2);
        }
        int count = 0;
        for (Tuple t : at(s).row) {
            count += bandBy(t.spread, bound(at(s).n(), error)) == k ? 1 : 0;
        }
        return yes(count);
    }

    private static int barOf(Stream s, int k, int n, boolean most) {
        int v = answerValue(s, quotaOf(s, k, n));
        int w = answerValue(s, quotaOf(s, k + 1, n));
        return most ? most(s, w) - sure(s, v) : Math.max(0, sure(s, w) - most(s, v));
    }

    int bar(int s, int k, int n, boolean most) {
        if (none(s)) {
            return no(1);
        }
        if (n < 1 || n > 100 || k < 0 || k > n - 1) {
            return no(2);
        }
        return at(s).n() == 0 ? no(5) : yes(barOf(at(s), k, n, most));
    }

    int uneven(int s, int n) {
        if (none(s)) {
            return no(1);
        }
        if (n < 1 || n > 100) {
            return no(2);
        }
        if (at(s).n() == 0) {
            return no(5);
        }
        List<Integer> least = new ArrayList<>();
        List<Integer> greatest = new ArrayList<>();
        for (int k = 0; k < n; k++) {
            least.add(barOf(at(s), k, n, false));
            greatest.add(barOf(at(s), k, n, true));
        }
        return yes(Collections.max(greatest) - Collections.min(least));
    }

    int meets(int s, int t, int n, int what) {
        if (noPair(s, t) || what < 0 || what > 2) {
            return no(1);
        }
        if (n < 1 || n > 100) {
            return no(2);
        }
        if (at(s).n() == 0 || at(t).n() == 0) {
            return no(5);
        }
        int[] counts = new int[3];
        for (int k = 0; k <= n; k++) {
            int v = answerValue(at(s), quotaOf(at(s), k, n));
            int w = answerValue(at(t), quotaOf(at(t), k, n));
            counts[v == w ? 0 : v < w ? 1 : 2]++;
        }
        return yes(counts[what]);
    }

    int sum(int s) {
        if (none(s)) {
            return no(1);
        }
        int sum = 0;
        for (int v : at(s).values) {
            sum += v;
        }
        return yes(sum);
    }

    int sorted(int s, int r) {
        if (none(s)) {
            return no(1);
        }
        return r < 1 || r > at(s).n() ? no(2) : yes(sortedAt(at(s), r));
    }

    int times(int s, int v) {
        if (none(s)) {
            return no(1);
        }
        return v < 0 || v > 999 ? no(2) : yes(Collections.frequency(at(s).values, v));
    }

    int miss(int s, int r) {
        if (none(s)) {
            return no(1);
        }
        return r < 1 || r > at(s).n() ? no(2) : yes(missOf(at(s), r));
    }

    int missed(int s) {
        if (none(s)) {
            return no(1);
        }
        int worst = -2;
        for (int r = 1; r <= at(s).n(); r++) {
            worst = Math.max(worst, missOf(at(s), r));
        }
        return yes(worst);
    }

    int heavy(int s, int n, int i) {
        if (none(s) || i < 0) {
            return no(1);
        }
        if (n < 1 || n > 100) {
            return no(2);
        }
        TreeSet<Integer> heavy = new TreeSet<>();
        for (Tuple t : at(s).row) {
            int before = t.value == 0 ? 0 : most(at(s), t.value - 1);
            if ((sure(at(s), t.value) - before) * n >= at(s).n()) {
                heavy.add(t.value);
            }
        }
        return yes(i < heavy.size() ? new ArrayList<>(heavy).get(i) : -2);
    }

    private static int apartAt(Stream s, Stream t, int v) {
        long top = 100L * sure(s, v) * t.n() - 100L * most(t, v) * s.n();
        return (int) (top / ((long) s.n() * t.n()));
    }

    int apart(int s, int t) {
        if (noPair(s, t)) {
            return no(1);
        }
        if (at(s).n() == 0 || at(t).n() == 0) {
            return no(5);
        }
        int greatest = 0;
        List<Tuple> both = new ArrayList<>(at(s).row);
        both.addAll(at(t).row);
        for (Tuple x : both) {
            greatest = Math.max(greatest, apartAt(at(s), at(t), x.value));
            greatest = Math.max(greatest, apartAt(at(t), at(s), x.value));
        }
        return yes(greatest);
    }

    int would(int s, int t) {
        if (noPair(s, t)) {
            return no(1);
        }
        if (at(s).n() + at(t).n() > 1000) {
            return no(3);
        }
        Stream x = at(s).copy();
        mergeInto(x, at(t).copy(), error);
        return yes(x.row.size());
    }

    int wins(int s, int t, boolean most) {
        if (noPair(s, t)) {
            return no(1);
        }
        int sum = 0;
        for (int r = 1; r <= at(s).n(); r++) {
            sum += at(t).n() - (most ? sure(at(t), floorOf(at(s), r)) : most(at(t), ceilingOf(at(s), r)));
        }
        return yes(sum);
    }

    private Stream theWhole() {
        Stream made = null;
        for (Stream s : streams) {
            if (s.n() > 0 && made == null) {
                made = s.copy();
            } else if (s.n() > 0) {
                mergeInto(made, s.copy(), error);
            }
        }
        return made;
    }

    private int wholeRefused() {
        int n = 0;
        for (Stream s : streams) {
            n += s.n();
        }
        return n == 0 ? 5 : n > 1000 ? 3 : 0;
    }

    int whole(int what) {
        if (streams.isEmpty() || what < 0 || what > 2) {
            return no(1);
        }
        if (wholeRefused() != 0) {
            return no(wholeRefused());
        }
        Stream whole = theWhole();
        return yes(what == 0 ? whole.n() : what == 1 ? whole.row.size() : worstOf(whole));
    }

    int overall(int r, int what) {
        if (streams.isEmpty() || what < 0 || what > 1) {
            return no(1);
        }
        if (wholeRefused() != 0) {
            return no(wholeRefused());
        }
        Stream whole = theWhole();
        if (r < 1 || r > whole.n()) {
            return no(2);
        }
        int i = answerTo(whole.row, r);
        return yes(what == 0 ? whole.row.get(i).value : offAt(whole.row, i, r));
    }

    int rounds(int s) {
        if (none(s)) {
            return no(1);
        }
        Stream x = at(s).copy();
        int rounds = 0;
        while (compressBy(x, error) > 0) {
            rounds++;
        }
        return yes(rounds);
    }

    int coarse(int s, int n) {
        if (none(s)) {
            return no(1);
        }
        if (n < 2 || n > error) {
            return no(2);
        }
        Stream x = at(s).copy();
        compressBy(x, n);
        return yes(x.row.size());
    }

    int spread(int s, int v) {
        if (none(s)) {
            return no(1);
        }
        return v < 0 || v > 999 ? no(2) : yes(spreadOf(at(s).row, v));
    }

    int finest(int s) {
        if (none(s)) {
            return no(1);
        }
        int finest = 2;
        for (int e = 2; e <= 40; e++) {
            if (widest(at(s)) <= bound(at(s).n(), e)) {
                finest = e;
            }
        }
        return yes(finest);
    }

    int push(int s, int v) {
        if (none(s)) {
            return no(1);
        }
        if (v < 0 || v > 999) {
            return no(2);
        }
        if (at(s).n() == 1000) {
            return no(3);
        }
        pushTo(at(s), v);
        return yes(at(s).row.size());
    }

    int draw(int s, int n, int m) {
        if (none(s)) {
            return no(1);
        }
        if (n < 1 || n > 200 || m < 1 || m > 1000) {
            return no(2);
        }
        if (at(s).n() + n > 1000) {
            return no(3);
        }
        for (int i = 0; i < n; i++) {
            seed = (75 * seed + 74) % 65537;
            pushTo(at(s), seed % m);
        }
        return yes(at(s).row.size());
    }

    boolean seed(int n) {
        if (n < 0 || n > 65536) {
            no(2);
            return false;
        }
        yes(0);
        seed = n;
        return true;
    }

    int compress(int s) {
        return none(s) ? no(1) : yes(compressBy(at(s), error));
    }

    int merge(int s, int t) {
        if (noPair(s, t)) {
            return no(1);
        }
        if (at(s).n() + at(t).n() > 1000) {
            return no(3);
        }
        mergeInto(at(s), at(t), error);
        return yes(at(s).row.size());
    }

    int clear(int s) {
        if (none(s)) {
            return no(1);
        }
        int n = at(s).n();
        at(s).values.clear();
        at(s).row.clear();
        at(s).since = 0;
        return yes(n);
    }

    int every(int s, int n) {
        if (none(s)) {
            return no(1);
        }
        if (n < 1 || n > 60) {
            return no(2);
        }
        at(s).every = n;
        if (at(s).since >= n) {
            compressBy(at(s), error);
        }
        return yes(at(s).row.size());
    }

    int error(int n) {
        if (streams.isEmpty()) {
            return no(1);
        }
        if (n < 2 || n > 40) {
            return no(2);
        }
        for (Stream s : streams) {
            if (widest(s) > bound(s.n(), n)) {
                return no(5);
            }
        }
        int old = error;
        error = n;
        return yes(old);
    }

    int idle(int i) {
        List<Integer> idle = new ArrayList<>();
        for (int s = 0; s < streams.size(); s++) {
            if (at(s).n() == 0) {
                idle.add(s);
            }
        }
        if (i < 0 || i >= idle.size()) {
            throw new NoSuchElementException();
        }
        return idle.get(i);
    }

    int size() {
        return tape.length();
    }

    int trouble() {
        return trouble;
    }
}
