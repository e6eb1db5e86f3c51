import java.math.BigInteger;
import java.util.ArrayList;
import java.util.List;

/**
 * The document told once more, day by day and without any thrift, so that long runs of calls by chance can be
 * compared with the class. It shares no code with it.
 */
final class SlowTailor {
    private static final int NONE = -1, BAD = -2, NOT = -3, FULL = -4;

    private record Person(int sort, int size) { }

    private record Promise(int whose, int great, int made, int due) { }

    private record Told(int day, int of, int much) { }

    /** A year with all that is told for it. */
    private record Town(List<Person> people, List<Promise> promises, List<Told> keepings, List<Told> lies, List<Told> lettings) {
        Town withPeople(List<Person> p) {
            return new Town(p, promises, keepings, lies, lettings);
        }

        Town withPromises(List<Promise> p) {
            return new Town(people, p, keepings, lies, lettings);
        }

        Town withKeepings(List<Told> k) {
            return new Town(people, promises, k, lies, lettings);
        }

        Town withLies(List<Told> l) {
            return new Town(people, promises, keepings, l, lettings);
        }
    }

    /** How it stands behind a day. */
    private static final class Behind {
        int[] coat;
        int[] splits;
        int[] stands;
    }

    private final StringBuilder[] texts = {new StringBuilder(), new StringBuilder()};
    private final List<Told> keepings = new ArrayList<>();
    private final List<Told> lies = new ArrayList<>();
    private final List<Told> lettings = new ArrayList<>();
    private final List<Told> seen = new ArrayList<>();
    private final Object[] sheets = new Object[4];
    private int finding = 0;

    private static boolean in(int v, int low, int high) {
        return v >= low && v <= high;
    }

    private static <T> List<T> with(List<T> list, T more) {
        List<T> all = new ArrayList<>(list);
        all.add(more);
        return all;
    }

    private static <T> List<T> without(List<T> list, int i) {
        List<T> all = new ArrayList<>(list);
        all.remove(i);
        return all;
    }

    private static <T> List<T> replaced(List<T> list, int i, T by) {
        List<T> all = new ArrayList<>(list);
        all.set(i, by);
        return all;
    }

    private int finding(int number) {
        finding = number;
        return -10 - number;
    }

    // ---- texts

    int type(int text, int b) {
        if (!in(text, 0, 1) || !in(b, 0, 255)) return BAD;
        if (texts[text].length() == (text == 0 ? 23 : 49)) return FULL;
        return texts[text].append((char) b).length();
    }

    int wipe(int text) {
        if (!in(text, 0, 1)) return BAD;
        int had = texts[text].length();
        texts[text].setLength(0);
        return had;
    }

    int undo(int text) {
        if (!in(text, 0, 1)) return BAD;
        if (texts[text].length() == 0) return NOT;
        texts[text].setLength(texts[text].length() - 1);
        return texts[text].length();
    }

    /** The longest beginning that can go on ends at the fault. */
    int fault(int text) {
        if (!in(text, 0, 1)) return BAD;
        String s = texts[text].toString();
        String one = text == 0 ? "[msa][0-9]" : "[a-h][1-9][a-x][a-x]";
        if (s.isEmpty() || s.matches(one + "(;" + one + ")*")) return NONE;
        String filler = text == 0 ? "m0;" : "a1aa;";
        for (int n = s.length(); n >= 0; n--) {
            String start = s.substring(0, n);
            // it can go on if some ending of a well one makes it well
            for (int from = 0; from < filler.length() - 1; from++) {
                if ((start + filler.substring(from, filler.length() - 1)).matches(one + "(;" + one + ")*")) return n;
            }
            if ((start + filler.substring(filler.length() - 1) + filler.substring(0, filler.length() - 1)).matches(one + "(;" + one + ")*")) return n;
        }
        return 0;
    }

    private List<Person> people() {
        List<Person> all = new ArrayList<>();
        if (fault(0) == NONE && texts[0].length() > 0) {
            for (String p : texts[0].toString().split(";")) all.add(new Person("msa".indexOf(p.charAt(0)), p.charAt(1) - '0'));
        }
        return all;
    }

    private List<Promise> promises() {
        List<Promise> all = new ArrayList<>();
        if (fault(1) == NONE && texts[1].length() > 0) {
            for (String p : texts[1].toString().split(";")) {
                all.add(new Promise(p.charAt(0) - 'a', p.charAt(1) - '0', p.charAt(2) - 'a', p.charAt(3) - 'a'));
            }
        }
        return all;
    }

    private Town town() {
        return new Town(people(), promises(), keepings, lies, lettings);
    }

    int person(int person, int what) {
        if (!in(person, 0, people().size() - 1) || !in(what, 0, 1)) return BAD;
        Person p = people().get(person);
        return what == 0 ? p.sort : p.size;
    }

    int promise(int promise, int what) {
        if (!in(promise, 0, promises().size() - 1) || !in(what, 0, 3)) return BAD;
        Promise p = promises().get(promise);
        return new int[] {p.whose, p.great, p.made, p.due}[what];
    }

    // ---- told

    private static int more(List<Told> list, int most, Told told) {
        if (list.size() == most) return FULL;
        list.add(told);
        return list.size();
    }

    int keeping(int day, int promise) {
        if (!in(day, 0, 23) || !in(promise, 0, 9)) return BAD;
        return more(keepings, 8, new Told(day, promise, 0));
    }

    int lie(int day, int person, int much) {
        if (!in(day, 0, 23) || !in(person, 0, 7) || !in(much, 1, 9)) return BAD;
        return more(lies, 6, new Told(day, person, much));
    }

    int letting(int day, int person, int much) {
        if (!in(day, 0, 23) || !in(person, 0, 7) || !in(much, 1, 9)) return BAD;
        return more(lettings, 6, new Told(day, person, much));
    }

    int back(int what) {
        if (!in(what, 0, 2)) return BAD;
        List<Told> list = List.of(keepings, lies, lettings).get(what);
        if (list.isEmpty()) return NOT;
        list.remove(list.size() - 1);
        return list.size();
    }

    int read(int s) {
        if (!in(s, 0, 3)) return BAD;
        if (sheets[s] == null) return finding(1);
        int n = 0;
        while (2 * n + 1 < items(s) && keeping(item(s, 2 * n), item(s, 2 * n + 1)) > 0) n++;
        return n;
    }

    // ---- days

    private static Behind behind(Town t, int last) {
        int n = t.people.size();
        Behind b = new Behind();
        b.coat = new int[n];
        b.splits = new int[n];
        b.stands = new int[t.promises.size()];
        for (int i = 0; i < n; i++) b.coat[i] = t.people.get(i).size;
        for (int day = 0; day <= last; day++) oneDay(t, b, day);
        return b;
    }

    private static void oneDay(Town t, Behind b, int day) {
        int n = t.people.size();
        for (int i = 0; i < t.promises.size(); i++) {
            Promise p = t.promises.get(i);
            if (p.made == day && p.whose < n) {
                b.stands[i] = 1;
                b.coat[p.whose] = Math.min(99, b.coat[p.whose] + longer(t, p));
            }
        }
        for (Told k : t.keepings) {
            if (k.day == day && k.of < t.promises.size() && b.stands[k.of] == 1) {
                b.stands[k.of] = 2;
                Promise p = t.promises.get(k.of);
                int size = t.people.get(p.whose).size;
                for (int step = 0; step < p.great; step++) b.coat[p.whose] += Integer.signum(size - b.coat[p.whose]);
            }
        }
        for (int i = 0; i < t.promises.size(); i++) {
            Promise p = t.promises.get(i);
            if (p.due == day && b.stands[i] == 1) {
                b.stands[i] = 3;
                int less = longer(t, p) + (t.people.get(p.whose).sort == 2 ? 2 : 0);
                b.coat[p.whose] = Math.max(0, b.coat[p.whose] - less);
                b.splits[p.whose]++;
            }
        }
        for (Told l : t.lies) {
            if (l.day == day && l.of < n) b.coat[l.of] = Math.max(0, b.coat[l.of] - l.much);
        }
        for (Told l : t.lettings) {
            if (l.day == day && l.of < n) b.coat[l.of] = Math.min(99, b.coat[l.of] + l.much);
        }
    }

    private static int longer(Town t, Promise p) {
        return switch (t.people.get(p.whose).sort) {
            case 0 -> p.great / 2;
            case 1 -> p.great * 2;
            default -> p.great;
        };
    }

    private static boolean fits(Town t, Behind b, int person) {
        int size = t.people.get(person).size;
        return b.coat[person] == size || b.coat[person] == size + 1;
    }

    private static int howMany(Town t, Behind b) {
        int many = 0;
        for (int i = 0; i < t.people.size(); i++) many += fits(t, b, i) ? 1 : 0;
        return many;
    }

    private static int sum(int[] row) {
        int all = 0;
        for (int v : row) all += v;
        return all;
    }

    int coat(int day, int person, int what) {
        Town t = town();
        if (!in(day, 0, 23) || !in(person, 0, t.people.size() - 1) || !in(what, 0, 2)) return BAD;
        Behind b = behind(t, day);
        return what == 0 ? b.coat[person] : what == 1 ? (fits(t, b, person) ? 1 : 0) : b.splits[person];
    }

    int stands(int day, int promise) {
        Town t = town();
        if (!in(day, 0, 23) || !in(promise, 0, t.promises.size() - 1)) return BAD;
        return behind(t, day).stands[promise];
    }

    int neat(int day) {
        if (!in(day, 0, 23)) return BAD;
        Town t = town();
        Behind b = behind(t, day);
        int bits = 0;
        for (int i = 0; i < t.people.size(); i++) bits += fits(t, b, i) ? 1 << i : 0;
        return bits;
    }

    private static int nakedBits(Town t, int day) {
        int bits = 0;
        Behind b = behind(t, day);
        for (int i = 0; i < t.people.size(); i++) bits += b.coat[i] == 0 ? 1 << i : 0;
        return bits;
    }

    int naked(int day) {
        return in(day, 0, 23) ? nakedBits(town(), day) : BAD;
    }

    int longest(int day) {
        if (!in(day, 0, 23)) return BAD;
        int[] coats = behind(town(), day).coat;
        for (int length = 99; length >= 0; length--) {
            for (int i = 0; i < coats.length; i++) if (coats[i] == length) return i;
        }
        return NONE;
    }

    int splits() {
        return sum(behind(town(), 23).splits);
    }

    int best() {
        Town t = town();
        if (t.people.isEmpty()) return NONE;
        for (int many = t.people.size(); many >= 0; many--) {
            for (int day = 0; day < 24; day++) if (howMany(t, behind(t, day)) == many) return day;
        }
        return NONE;
    }

    // ---- plans

    int swear(int person, int day) {
        Town t = town();
        if (!in(person, 0, t.people.size() - 1) || !in(day, 0, 23)) return BAD;
        for (int great = 1; great <= 9; great++) {
            Town more = t.withPromises(with(t.promises, new Promise(person, great, 0, 99)));
            if (fits(more, behind(more, day), person)) return great;
        }
        return NONE;
    }

    int keep(int day, int what) {
        if (!in(day, 0, 23) || !in(what, 0, 1)) return BAD;
        Town t = town();
        if (t.promises.isEmpty()) return NONE;
        for (int many = t.people.size(); many >= 0; many--) {
            for (int i = 0; i < t.promises.size(); i++) {
                Town more = t.withKeepings(with(t.keepings, new Told(day, i, 0)));
                if (howMany(more, behind(more, 23)) == many) return what == 0 ? i : many;
            }
        }
        return NONE;
    }

    int due(int promise, int what) {
        Town t = town();
        if (!in(promise, 0, t.promises.size() - 1) || !in(what, 0, 1)) return BAD;
        Promise p = t.promises.get(promise);
        for (int few = 0; few <= 10; few++) {
            for (int day = 0; day < 24; day++) {
                Town other = t.withPromises(replaced(t.promises, promise, new Promise(p.whose, p.great, p.made, day)));
                if (sum(behind(other, 23).splits) == few) return what == 0 ? day : few;
            }
        }
        return NONE;
    }

    int hush(int i) {
        if (!in(i, -1, 1)) return BAD;
        Town t = town();
        List<List<Integer>> rows = new ArrayList<>();
        rows.add(List.of());
        for (int a = 0; a < lies.size(); a++) rows.add(List.of(a));
        for (int a = 0; a < lies.size(); a++) for (int b = a + 1; b < lies.size(); b++) rows.add(List.of(a, b));
        for (List<Integer> row : rows) {
            List<Told> left = new ArrayList<>();
            for (int k = 0; k < lies.size(); k++) if (!row.contains(k)) left.add(lies.get(k));
            if (nakedBits(t.withLies(left), 23) == 0) return i == -1 ? row.size() : i < row.size() ? row.get(i) : NONE;
        }
        return NONE;
    }

    // ---- seen, words, years

    int seen(int day, int person, int much) {
        if (!in(day, 0, 23) || !in(person, 0, 7) || !in(much, 0, 99)) return BAD;
        return more(seen, 8, new Told(day, person, much));
    }

    int forget() {
        int had = seen.size();
        seen.clear();
        return had;
    }

    private boolean comesOut(Town t) {
        for (Told s : seen) {
            if (s.of >= t.people.size() || behind(t, s.day).coat[s.of] != s.much) return false;
        }
        return true;
    }

    int never() {
        Town t = town();
        int bits = 0;
        for (int k = 0; k < keepings.size(); k++) bits += comesOut(t.withKeepings(without(keepings, k))) ? 1 << k : 0;
        return bits;
    }

    private static Town ofSize(Town t, int person, int size) {
        return t.withPeople(replaced(t.people, person, new Person(t.people.get(person).sort, size)));
    }

    int was(int person, int what) {
        Town t = town();
        if (!in(person, 0, t.people.size() - 1) || !in(what, 0, 1)) return BAD;
        int bits = 0;
        for (int v = 0; v < (what == 0 ? 10 : 3); v++) {
            Town other = what == 0 ? ofSize(t, person, v)
                : t.withPeople(replaced(t.people, person, new Person(v, t.people.get(person).size)));
            bits += comesOut(other) ? 1 << v : 0;
        }
        return bits;
    }

    int ask(int person) {
        Town t = town();
        if (!in(person, 0, t.people.size() - 1)) return BAD;
        int sizes = was(person, 0);
        int which = NONE;
        int least = 99;
        for (int day = 0; day < 24; day++) {
            int[] alike = new int[100];
            int greatest = 0;
            for (int v = 0; v < 10; v++) {
                if ((sizes >> v & 1) == 1) {
                    greatest = Math.max(greatest, ++alike[behind(ofSize(t, person, v), day).coat[person]]);
                }
            }
            if (greatest < least) {
                which = day;
                least = greatest;
            }
        }
        return which;
    }

    long word(int c, int person, int day, int what) {
        Town t = town();
        if (!in(c, 0, 16) || !in(person, 0, t.people.size() - 1) || !in(day, 0, 23) || !in(what, 0, 1)) return Long.MIN_VALUE + 2;
        BigInteger above = BigInteger.ZERO;
        BigInteger below = BigInteger.valueOf(16).pow(keepings.size());
        for (int bits = 0; bits < 1 << keepings.size(); bits++) {
            List<Told> some = new ArrayList<>();
            BigInteger chance = BigInteger.ONE;
            for (int k = 0; k < keepings.size(); k++) {
                boolean is = (bits >> k & 1) == 1;
                if (is) some.add(keepings.get(k));
                chance = chance.multiply(BigInteger.valueOf(is ? c : 16 - c));
            }
            Town other = t.withKeepings(some);
            if (fits(other, behind(other, day), person)) above = above.add(chance);
        }
        BigInteger common = above.gcd(below);
        return (what == 0 ? above : below).divide(common).longValueExact();
    }

    int year(int seed, int n, int what) {
        if (!in(n, 0, 8) || !in(what, 0, 1)) return BAD;
        Town t = town();
        List<Told> drawn = new ArrayList<>();
        BigInteger state = BigInteger.valueOf(seed & 0xFFFFFFFFL);
        BigInteger word = BigInteger.ONE.shiftLeft(32);
        for (int k = 0; k < n && !t.promises.isEmpty(); k++) {
            int[] lots = new int[2];
            for (int i = 0; i < 2; i++) {
                state = state.multiply(BigInteger.valueOf(1103515245)).add(BigInteger.valueOf(12345)).mod(word);
                lots[i] = (int) (state.shiftRight(16).longValueExact() % (i == 0 ? 24 : t.promises.size()));
            }
            drawn.add(new Told(lots[0], lots[1], 0));
        }
        Town other = t.withKeepings(drawn);
        Behind b = behind(other, 23);
        if (what == 1) return howMany(other, b);
        int broken = 0;
        for (int s : b.stands) broken += s == 3 ? 1 : 0;
        return broken;
    }

    // ---- sheets

    private int form(int s) {
        return sheets[s] instanceof byte[] ? 0 : sheets[s] instanceof short[] ? 1 : 2;
    }

    private int items(int s) {
        return java.lang.reflect.Array.getLength(sheets[s]);
    }

    private int item(int s, int i) {
        return java.lang.reflect.Array.getInt(sheets[s], i);
    }

    private void set(int s, int i, int v) {
        if (sheets[s] instanceof byte[] b) b[i] = (byte) v;
        if (sheets[s] instanceof short[] b) b[i] = (short) v;
        if (sheets[s] instanceof int[] b) b[i] = v;
    }

    int sheet(int s, int form, int n) {
        if (!in(s, 0, 3) || !in(form, 0, 2) || n > 60) return BAD;
        if (n < 0) return finding(5);
        sheets[s] = form == 0 ? new byte[n] : form == 1 ? new short[n] : new int[n];
        return n;
    }

    int lose(int s) {
        if (!in(s, 0, 3)) return BAD;
        if (sheets[s] == null) return finding(1);
        int had = items(s);
        sheets[s] = null;
        return had;
    }

    int put(int s, int form, int i, int v) {
        if (!in(s, 0, 3) || !in(form, 0, 2)) return BAD;
        if (sheets[s] == null) return finding(1);
        if (form(s) != form) return finding(3);
        if (!in(i, 0, items(s) - 1)) return finding(2);
        set(s, i, v);
        return 1;
    }

    int get(int s, int form, int i) {
        if (!in(s, 0, 3) || !in(form, 0, 2)) return Integer.MIN_VALUE;
        if (sheets[s] == null) {
            finding = 1;
        } else if (form(s) != form) {
            finding = 3;
        } else if (!in(i, 0, items(s) - 1)) {
            finding = 2;
        } else {
            return item(s, i);
        }
        return Integer.MIN_VALUE;
    }

    @SuppressWarnings("SuspiciousSystemArraycopy")
    int copy(int s, int i, int t, int j, int n) {
        if (!in(s, 0, 3) || !in(t, 0, 3)) return BAD;
        if (sheets[s] == null || sheets[t] == null) return finding(1);
        if (form(s) != form(t)) return finding(4);
        try {
            System.arraycopy(sheets[s], i, sheets[t], j, n);
        } catch (IndexOutOfBoundsException e) {
            return finding(2);
        }
        return 1;
    }

    int write(int person, int s) {
        if (!in(person, 0, people().size() - 1) || !in(s, 0, 3)) return BAD;
        if (sheets[s] == null) return finding(1);
        int day = 0;
        for (; day < 24 && day < items(s); day++) set(s, day, behind(town(), day).coat[person]);
        return day;
    }

    int count(int what) {
        if (!in(what, 0, 8)) return BAD;
        return new int[] {people().size(), promises().size(), texts[0].length(), texts[1].length(), keepings.size(),
            lies.size(), lettings.size(), seen.size(), finding}[what];
    }

    long digest() {
        List<Long> all = new ArrayList<>();
        for (int what = 0; what < 8; what++) all.add((long) count(what));
        all.add((long) fault(0));
        all.add((long) fault(1));
        for (int p = 0; p < promises().size(); p++) {
            for (int what = 0; what < 4; what++) all.add((long) promise(p, what));
            for (long v : new long[] {stands(8, p), stands(23, p), due(p, 0), due(p, 1)}) all.add(v);
        }
        for (int p = 0; p < people().size(); p++) {
            for (int what = 0; what < 2; what++) all.add((long) person(p, what));
            for (int day : new int[] {0, 6, 14, 23}) for (int what = 0; what < 3; what++) all.add((long) coat(day, p, what));
            for (long v : new long[] {swear(p, 14), was(p, 0), was(p, 1), ask(p), word(5, p, 14, 0), word(5, p, 14, 1)}) all.add(v);
        }
        for (int day = 0; day < 24; day++) for (long v : new long[] {neat(day), naked(day), longest(day)}) all.add(v);
        for (long v : new long[] {splits(), best(), keep(8, 0), keep(8, 1), hush(-1), hush(0), never(), year(7, 6, 0), year(7, 6, 1)}) all.add(v);
        long h = 17;
        for (long v : all) h = 31 * h + v;
        return h;
    }
}
