import java.math.BigInteger;
import java.util.ArrayList;
import java.util.Comparator;
import java.util.List;
import java.util.Map;
import java.util.TreeMap;
import java.util.TreeSet;
import java.util.regex.Matcher;
import java.util.regex.Pattern;

/** The document said once more, as plainly as the Java library allows; ModelTest compares HandMarket with it. */
final class Model {
    static final int BAD = -1, STATE = -2, FULL = -3, NONE = -4;

    /** What an IMAGE holds. */
    static final class World {
        final Map<Integer, int[]> hands = new TreeMap<>();
        final TreeSet<Integer> run = new TreeSet<>();
        final TreeSet<Integer> folded = new TreeSet<>();
        final Map<Integer, Integer> wed = new TreeMap<>();
        int year;

        World copy() {
            World w = new World();
            hands.forEach((a, traits) -> w.hands.put(a, traits.clone()));
            w.run.addAll(run);
            w.folded.addAll(folded);
            w.wed.putAll(wed);
            w.year = year;
            return w;
        }

        boolean left(int a) {
            return a < 4 && hands.containsKey(a);
        }

        boolean right(int a) {
            return a >= 4 && hands.containsKey(a);
        }

        boolean foldedTwo(int a, int b) {
            return folded.contains(Math.min(a, b) * 10 + Math.max(a, b));
        }

        int strokesOfPen(int a, int what) {
            return hands.get(hands.get(a)[4])[1 + what];
        }

        int page(int a, int what) {
            int own = strokesOfPen(a, what);
            if (what == 2) {
                return own;
            }
            boolean ahead = a % 4 != 0 && hands.containsKey(a - 1) && run.contains(a - 1);
            boolean next = a % 4 != 3 && hands.containsKey(a + 1) && run.contains(a);
            if (ahead) {
                return (own + strokesOfPen(a - 1, what)) / 2;
            }
            return next ? (own + strokesOfPen(a + 1, what)) / 2 : own;
        }

        int likes(int a, int b) {
            int[] h = hands.get(a);
            int l = page(b, 0);
            int r = page(b, 1);
            switch (h[0]) {
                case 2: return l + r;
                case 3: return 20 - l - r;
                default:
                    int bonus = h[0] == 1 && page(b, 2) == h[3] ? 3 : 0;
                    return 20 - Math.abs(l - h[1]) - Math.abs(r - h[2]) + bonus;
            }
        }

        List<Integer> list(int a) {
            List<Integer> all = new ArrayList<>();
            for (int b : hands.keySet()) {
                if (a / 4 != b / 4 && !foldedTwo(a, b)) {
                    all.add(b);
                }
            }
            all.sort(Comparator.comparingInt((Integer b) -> -likes(a, b)).thenComparingInt(b -> b));
            return all;
        }

        /** By ASKING; gone are those whose PAGES are stolen. */
        Map<Integer, Integer> asking(int side, TreeSet<Integer> gone) {
            Map<Integer, List<Integer>> lists = new TreeMap<>();
            for (int a : hands.keySet()) {
                List<Integer> l = list(a);
                l.removeAll(gone);
                lists.put(a, gone.contains(a) ? new ArrayList<>() : l);
            }
            Map<Integer, Integer> with = new TreeMap<>();
            Map<Integer, Integer> next = new TreeMap<>();
            boolean again = true;
            while (again) {
                again = false;
                for (int a : hands.keySet()) {
                    int n = next.getOrDefault(a, 0);
                    if (a / 4 != side || with.containsKey(a) || n >= lists.get(a).size()) {
                        continue;
                    }
                    int b = lists.get(a).get(n);
                    next.put(a, n + 1);
                    again = true;
                    Integer had = with.get(b);
                    List<Integer> hers = lists.get(b);
                    if (had == null || hers.indexOf(a) < hers.indexOf(had)) {
                        if (had != null) {
                            with.remove(had);
                        }
                        with.put(a, b);
                        with.put(b, a);
                    }
                    break;
                }
            }
            return with;
        }

        Map<Integer, Integer> asking() {
            return asking(0, new TreeSet<>());
        }

        int sum(Map<Integer, Integer> with) {
            return with.entrySet().stream().mapToInt(e -> likes(e.getKey(), e.getValue())).sum();
        }

        boolean rather(int a, int b, Integer than) {
            List<Integer> l = list(a);
            if (!l.contains(b)) {
                return false;
            }
            return than == null || !l.contains(than) || l.indexOf(b) < l.indexOf(than);
        }

        List<Integer> quarrels(Map<Integer, Integer> with) {
            List<Integer> all = new ArrayList<>();
            for (int a : hands.keySet()) {
                for (int b : hands.keySet()) {
                    if (a < 4 && b >= 4 && rather(a, b, with.get(a)) && rather(b, a, with.get(b))) {
                        all.add(a * 10 + b);
                    }
                }
            }
            return all;
        }

        List<Map<Integer, Integer>> allPairs() {
            List<Map<Integer, Integer>> all = new ArrayList<>();
            grow(0, new TreeMap<>(), all);
            return all;
        }

        private void grow(int a, Map<Integer, Integer> with, List<Map<Integer, Integer>> all) {
            if (!left(a)) {
                all.add(new TreeMap<>(with));
                return;
            }
            grow(a + 1, with, all);
            for (int b = 4; b < 8; b++) {
                if (right(b) && !with.containsKey(b) && !foldedTwo(a, b)) {
                    with.put(a, b);
                    with.put(b, a);
                    grow(a + 1, with, all);
                    with.remove(a);
                    with.remove(b);
                }
            }
        }

        boolean alike() {
            return wed.entrySet().stream().allMatch(e -> unlike(e.getKey(), e.getValue()) == 0);
        }

        int unlike(int a, int b) {
            return Math.abs(hands.get(a)[1] - hands.get(b)[1]) + Math.abs(hands.get(a)[2] - hands.get(b)[2]);
        }

        void pass() {
            for (Map.Entry<Integer, Integer> e : wed.entrySet()) {
                if (e.getKey() < 4) {
                    for (int t = 1; t <= 2; t++) {
                        nearer(hands.get(e.getKey()), hands.get(e.getValue()), t);
                    }
                }
            }
            year++;
        }

        private static void nearer(int[] a, int[] b, int t) {
            int gap = Math.abs(a[t] - b[t]);
            if (gap == 1) {
                a[t] = b[t] = Math.max(a[t], b[t]);
            } else if (gap > 1) {
                int s = Integer.signum(b[t] - a[t]);
                a[t] += s;
                b[t] -= s;
            }
        }
    }

    private World w = new World();
    private final World[] images = new World[2];
    private String tape = "";
    private int fault;
    private List<int[]> seen = new ArrayList<>();
    private final Object[] sheets = new Object[4];
    private int torn;

    private boolean is(int a) {
        return w.hands.containsKey(a);
    }

    private static boolean within(int v, int low, int high) {
        return v >= low && v <= high;
    }

    private static int bits(Iterable<Integer> all) {
        int bits = 0;
        for (int a : all) {
            bits |= 1 << a;
        }
        return bits;
    }

    private static int none(Integer found) {
        return found == null ? NONE : found;
    }

    int feed(int c) {
        if (!within(c, 0, 127)) {
            return BAD;
        }
        if (tape.length() == 160) {
            return FULL;
        }
        tape += (char) c;
        return tape.length();
    }

    int end(int n) {
        int had = tape.length();
        if (!within(n, 0, had)) {
            return BAD;
        }
        tape = tape.substring(0, n);
        return had;
    }

    /** A FAULT on its way out of the parser. */
    private static final class Refusal extends RuntimeException {
        private static final long serialVersionUID = 1L;
        final int fault;
        final int place;

        Refusal(int fault, int place) {
            this.fault = fault;
            this.place = place;
        }
    }

    private static final Pattern TOKEN = Pattern.compile("[a-z]+|[0-9]+|;");

    private int at;
    private int tokenAt;

    /** Empty at the end. */
    private String token() {
        while (at < tape.length() && tape.charAt(at) == ' ') {
            at++;
        }
        tokenAt = at;
        if (at == tape.length()) {
            return "";
        }
        Matcher m = TOKEN.matcher(tape);
        m.region(at, tape.length());
        if (!m.lookingAt() || m.group().matches("[0-9]{3,}")) {
            throw new Refusal(1, at);
        }
        at = m.end();
        return m.group();
    }

    private int number(int low, int high) {
        String t = token();
        if (!t.matches("[0-9]+")) {
            throw new Refusal(2, tokenAt);
        }
        int v = Integer.parseInt(t);
        if (!within(v, low, high)) {
            throw new Refusal(3, tokenAt);
        }
        return v;
    }

    private void refuseIf(boolean wrong, int why) {
        if (wrong) {
            throw new Refusal(why, tokenAt);
        }
    }

    int text() {
        at = 0;
        try {
            World told = new World();
            int lines = parse(told);
            w = told;
            fault = 0;
            seen = new ArrayList<>();
            images[0] = null;
            images[1] = null;
            return lines;
        } catch (Refusal r) {
            fault = r.fault;
            return -10 - r.place;
        } finally {
            tape = "";
        }
    }

    private int parse(World told) {
        Map<Integer, Integer> pens = new TreeMap<>();
        TreeSet<Integer> named = new TreeSet<>();
        int lines = 0;
        for (String t = token(); !t.isEmpty(); t = token()) {
            switch (t) {
                case "plain": case "taught": case "vain": case "trembler":
                    String s = token();
                    refuseIf(!s.equals("left") && !s.equals("right"), 2);
                    int first = s.equals("left") ? 0 : 4;
                    int a = first;
                    while (told.hands.containsKey(a)) {
                        a++;
                    }
                    refuseIf(a == first + 4, 5);
                    int kind = List.of("plain", "taught", "vain", "trembler").indexOf(t);
                    told.hands.put(a, new int[] {kind, number(0, 9), number(0, 9), number(0, 2), a});
                    break;
                case "pen":
                    int h = number(0, 7);
                    refuseIf(pens.containsKey(h), 4);
                    pens.put(h, number(0, 7));
                    named.add(h);
                    named.add(pens.get(h));
                    break;
                case "run":
                    refuseIf(!told.run.add(number(0, 7)), 4);
                    break;
                case "fold":
                    int fl = number(0, 3);
                    int fr = number(4, 7);
                    refuseIf(!told.folded.add(fl * 10 + fr), 4);
                    named.add(fl);
                    named.add(fr);
                    break;
                case "wed":
                    int wl = number(0, 3);
                    refuseIf(told.wed.containsKey(wl), 4);
                    int wr = number(4, 7);
                    refuseIf(told.wed.containsKey(wr), 4);
                    told.wed.put(wl, wr);
                    told.wed.put(wr, wl);
                    break;
                default:
                    refuseIf(true, 2);
            }
            refuseIf(!token().equals(";"), 2);
            lines++;
        }
        named.addAll(told.run);
        named.addAll(told.wed.keySet());
        if (!told.hands.keySet().containsAll(named)) {
            throw new Refusal(6, tape.length());
        }
        pens.forEach((a, p) -> told.hands.get(a)[4] = p);
        return lines;
    }

    int fault() {
        return fault;
    }

    int rule(int what) {
        switch (what) {
            case 0: return (int) w.hands.keySet().stream().filter(a -> a < 4).count();
            case 1: return (int) w.hands.keySet().stream().filter(a -> a >= 4).count();
            case 2: return bits(w.run);
            case 3: return bits(w.wed.keySet());
            case 4: return w.year;
            default: return BAD;
        }
    }

    int hand(int a, int what) {
        if (!is(a) || !within(what, 0, 6)) {
            return BAD;
        }
        if (what < 5) {
            return w.hands.get(a)[what];
        }
        if (what == 5) {
            return none(w.wed.get(a));
        }
        int bits = 0;
        for (int b : w.hands.keySet()) {
            bits |= w.foldedTwo(a, b) ? 1 << b : 0;
        }
        return bits;
    }

    int page(int a, int what) {
        return is(a) && within(what, 0, 2) ? w.page(a, what) : BAD;
    }

    int likes(int a, int b) {
        return is(a) && is(b) && a / 4 != b / 4 ? w.likes(a, b) : BAD;
    }

    int rather(int a, int k) {
        if (!is(a) || k < 0) {
            return BAD;
        }
        List<Integer> l = w.list(a);
        return k < l.size() ? l.get(k) : NONE;
    }

    int alter(int a, int what, int v) {
        if (!is(a) || !within(what, 0, 4)) {
            return BAD;
        }
        boolean allowed = what == 4 ? is(v) : within(v, 0, new int[] {3, 9, 9, 2}[what]);
        if (!allowed) {
            return BAD;
        }
        int was = w.hands.get(a)[what];
        w.hands.get(a)[what] = v;
        return was;
    }

    int run(int a, boolean is) {
        if (!is(a)) {
            return BAD;
        }
        return (is ? !w.run.add(a) : w.run.remove(a)) ? 1 : 0;
    }

    int fold(int a, int b, boolean is) {
        if (!w.left(a) || !w.right(b)) {
            return BAD;
        }
        int two = a * 10 + b;
        return (is ? !w.folded.add(two) : w.folded.remove(two)) ? 1 : 0;
    }

    int wed(int a, int b) {
        if (!w.left(a) || !w.right(b)) {
            return BAD;
        }
        if (w.wed.containsKey(a) || w.wed.containsKey(b) || w.foldedTwo(a, b)) {
            return STATE;
        }
        w.wed.put(a, b);
        w.wed.put(b, a);
        return w.wed.size() / 2;
    }

    int part(int a) {
        if (!is(a)) {
            return BAD;
        }
        if (!w.wed.containsKey(a)) {
            return STATE;
        }
        int b = w.wed.remove(a);
        w.wed.remove(b);
        return b;
    }

    int asked(int side, int a) {
        if (!within(side, 0, 1) || !is(a)) {
            return BAD;
        }
        return none(w.asking(side, new TreeSet<>()).get(a));
    }

    int sum(int what) {
        if (!within(what, 0, 3)) {
            return BAD;
        }
        Map<Integer, Integer> with = w.asking(what / 2, new TreeSet<>());
        return what % 2 == 0 ? with.size() / 2 : w.sum(with);
    }

    int hold(int what) {
        if (what != 0 && !is(what - 10)) {
            return BAD;
        }
        Integer wanted = w.asking().get(what - 10);
        int n = 0;
        for (Map<Integer, Integer> with : w.allPairs()) {
            Integer has = with.get(what - 10);
            boolean same = what == 0 || (wanted == null ? has == null : wanted.equals(has));
            n += same && w.quarrels(with).isEmpty() ? 1 : 0;
        }
        return n;
    }

    int most(int what) {
        if (what != 0 && !w.left(what - 10)) {
            return BAD;
        }
        Map<Integer, Integer> best = null;
        for (Map<Integer, Integer> with : w.allPairs()) {
            if (best == null || w.sum(with) > w.sum(best)) {
                best = with;
            }
        }
        return what == 0 ? w.sum(best) : none(best.get(what - 10));
    }

    int quarrel(int what) {
        if (!within(what, 0, 1)) {
            return BAD;
        }
        List<Integer> all = w.quarrels(w.wed);
        if (what == 0) {
            return all.size();
        }
        return all.isEmpty() ? NONE : all.get(0);
    }

    int alone() {
        TreeSet<Integer> left = new TreeSet<>(w.hands.keySet());
        left.removeAll(w.asking().keySet());
        return bits(left);
    }

    int years(int n) {
        if (!within(n, 0, 20)) {
            return BAD;
        }
        if (w.year + n > 999) {
            return FULL;
        }
        for (int i = 0; i < n; i++) {
            w.pass();
        }
        return w.year;
    }

    int alike() {
        World t = w.copy();
        for (int y = 0; y <= 20; y++, t.pass()) {
            if (t.alike()) {
                return y;
            }
        }
        return NONE;
    }

    int near(int what) {
        if (!within(what, 0, 1)) {
            return BAD;
        }
        int least = Integer.MAX_VALUE;
        for (int a : w.hands.keySet()) {
            for (int b : w.hands.keySet()) {
                if (a < b) {
                    least = Math.min(least, w.unlike(a, b) * 100 + a * 10 + b);
                }
            }
        }
        if (least == Integer.MAX_VALUE) {
            return NONE;
        }
        return what == 0 ? least % 100 : least / 100;
    }

    int forge(int a, int what) {
        if (!is(a) || !within(what, 0, 1)) {
            return BAD;
        }
        int best = -2;
        int pen = NONE;
        int with = NONE;
        for (int p : w.hands.keySet()) {
            World t = w.copy();
            t.hands.get(a)[4] = p;
            Integer m = t.asking().get(a);
            int v = m == null ? -1 : t.likes(a, m);
            if (v > best) {
                best = v;
                pen = p;
                with = none(m);
            }
        }
        return what == 0 ? pen : with;
    }

    int swap(int what) {
        if (!within(what, 0, 1)) {
            return BAD;
        }
        int best = w.sum(w.asking());
        int two = NONE;
        for (int a : w.hands.keySet()) {
            for (int b : w.hands.keySet()) {
                World t = w.copy();
                t.hands.get(a)[4] = w.hands.get(b)[4];
                t.hands.get(b)[4] = w.hands.get(a)[4];
                int sum = t.sum(t.asking());
                if (a < b && sum > best) {
                    best = sum;
                    two = a * 10 + b;
                }
            }
        }
        return what == 0 || two == NONE ? two : best;
    }

    private long fraction(int v, int a, int what) {
        List<Integer> all = new ArrayList<>(w.hands.keySet());
        BigInteger top = BigInteger.ZERO;
        for (int gone = 0; gone < 1 << all.size(); gone++) {
            TreeSet<Integer> stolen = new TreeSet<>();
            for (int i = 0; i < all.size(); i++) {
                if ((gone >> i & 1) == 1) {
                    stolen.add(all.get(i));
                }
            }
            Map<Integer, Integer> with = w.asking(0, stolen);
            int good = a < 0 ? with.size() / 2 : with.containsKey(a) ? 1 : 0;
            top = top.add(BigInteger.valueOf(v).pow(stolen.size())
                .multiply(BigInteger.valueOf(10 - v).pow(all.size() - stolen.size()))
                .multiply(BigInteger.valueOf(good)));
        }
        BigInteger bottom = BigInteger.TEN.pow(all.size());
        BigInteger g = top.gcd(bottom);
        return (what == 0 ? top : bottom).divide(g).longValueExact();
    }

    long mean(int v, int what) {
        return within(v, 0, 10) && within(what, 0, 1) ? fraction(v, -1, what) : BAD;
    }

    long luck(int v, int a, int what) {
        return within(v, 0, 10) && is(a) && within(what, 0, 1) ? fraction(v, a, what) : BAD;
    }

    int see(int a, int what, int v) {
        if (!is(a) || !within(what, 0, 2) || !within(v, 0, 9)) {
            return BAD;
        }
        if (seen.size() == 6) {
            return FULL;
        }
        seen.add(new int[] {a, what, v});
        return seen.size();
    }

    int forget(int n) {
        int were = seen.size();
        if (!within(n, 0, were)) {
            return BAD;
        }
        seen = new ArrayList<>(seen.subList(0, n));
        return were;
    }

    private int shown(int a, int pen, int what) {
        World t = w.copy();
        t.hands.get(a)[4] = pen;
        return t.page(a, what);
    }

    private List<Integer> fitting(int a) {
        List<Integer> all = new ArrayList<>();
        for (int p : w.hands.keySet()) {
            if (seen.stream().allMatch(s -> s[0] != a || shown(a, p, s[1]) == s[2])) {
                all.add(p);
            }
        }
        return all;
    }

    int fits(int a) {
        return is(a) ? bits(fitting(a)) : BAD;
    }

    int look(int a, int what) {
        if (!is(a) || !within(what, 0, 1)) {
            return BAD;
        }
        List<Integer> now = fitting(a);
        int best = now.size();
        int trait = NONE;
        for (int t = 0; t < 3; t++) {
            int worst = 0;
            for (int v = 0; v < 10; v++) {
                int left = 0;
                for (int p : now) {
                    left += shown(a, p, t) == v ? 1 : 0;
                }
                worst = Math.max(worst, left);
            }
            if (worst < best) {
                best = worst;
                trait = t;
            }
        }
        return what == 0 || trait == NONE ? trait : best;
    }

    int drift(int seed, int n, int what) {
        if (!within(n, 1, 60) || !within(what, 0, 1)) {
            return BAD;
        }
        if (w.hands.isEmpty()) {
            return STATE;
        }
        World t = w.copy();
        List<Integer> all = new ArrayList<>(t.hands.keySet());
        long s = seed & 0xffffffffL;
        int sum = 0;
        for (int i = 0; i < n; i++) {
            int[] drawn = new int[2];
            for (int j = 0; j < 2; j++) {
                s = (s * 1103515245L + 12345L) & 0xffffffffL;
                drawn[j] = all.get((int) (s / 65536 % 32768 % all.size()));
            }
            t.hands.get(drawn[0])[4] = drawn[1];
            sum += t.sum(t.asking());
        }
        return what == 0 ? t.asking().size() / 2 : sum;
    }

    int keep(int k) {
        if (!within(k, 0, 1)) {
            return BAD;
        }
        int was = images[k] == null ? 0 : 1;
        images[k] = w.copy();
        return was;
    }

    int back(int k) {
        if (!within(k, 0, 1)) {
            return BAD;
        }
        if (images[k] == null) {
            return STATE;
        }
        w = images[k].copy();
        return w.year;
    }

    int sheet(int k, int lane, int n) {
        if (!within(k, 0, 3) || !within(lane, 0, 2) || n > 40) {
            return BAD;
        }
        try {
            sheets[k] = lane == 0 ? new byte[n] : lane == 1 ? new short[n] : new int[n];
            return 1;
        } catch (NegativeArraySizeException e) {
            return -14;
        }
    }

    int lay(int k, int i, int v) {
        if (!within(k, 0, 3)) {
            return BAD;
        }
        try {
            if (sheets[k] instanceof byte[]) {
                ((byte[]) sheets[k])[i] = (byte) v;
            } else if (sheets[k] instanceof short[]) {
                ((short[]) sheets[k])[i] = (short) v;
            } else {
                ((int[]) sheets[k])[i] = v;
            }
            return 1;
        } catch (NullPointerException e) {
            return -11;
        } catch (ArrayIndexOutOfBoundsException e) {
            return -12;
        }
    }

    private int cell(int k, int lane, int i) {
        return lane == 0 ? ((byte[]) sheets[k])[i] : lane == 1 ? ((short[]) sheets[k])[i] : ((int[]) sheets[k])[i];
    }

    int read(int k, int lane, int f, int n) {
        if (!within(k, 0, 3) || !within(lane, 0, 2) || !within(n, 0, 20)) {
            return BAD;
        }
        List<int[]> whole = new ArrayList<>();
        int found = 0;
        try {
            for (int i = 0; i < n; i++) {
                int a = cell(k, lane, f + 2 * i);
                int p = cell(k, lane, f + 2 * i + 1);
                if (!is(a) || !is(p)) {
                    return -20 - i;
                }
                whole.add(new int[] {a, p});
            }
        } catch (NullPointerException e) {
            found = 1;
        } catch (ArrayIndexOutOfBoundsException e) {
            found = 2;
        } catch (ClassCastException e) {
            found = 3;
        }
        torn = found;
        whole.forEach(two -> w.hands.get(two[0])[4] = two[1]);
        return whole.size();
    }

    int torn() {
        return torn;
    }

    int count(int what) {
        switch (what) {
            case 0: return seen.size();
            case 1: return (images[0] == null ? 0 : 1) + (images[1] == null ? 0 : 1);
            case 2: return tape.length();
            case 3: return sheets[0] == null ? NONE : java.lang.reflect.Array.getLength(sheets[0]);
            case 4: return w.wed.size() / 2;
            case 5: return w.folded.size();
            default: return BAD;
        }
    }
}
