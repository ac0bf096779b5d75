import java.util.ArrayDeque;
import java.util.ArrayList;
import java.util.Arrays;
import java.util.Deque;
import java.util.List;
import java.util.TreeMap;
import java.util.TreeSet;
import java.util.function.IntBinaryOperator;
import java.util.regex.Matcher;
import java.util.regex.Pattern;

/**
 * The document once more, told the slow way with the whole library, so that the class has
 * something to be held against. It shares no code and few ways of counting with the class.
 */
final class Oracle {
    interface Sum { long of(long arc, long from, long to, long member, long twist); }

    interface Truth { boolean of(long arc, long from, long to, long member, long twist); }

    record Arc(int from, int to, int told, boolean half) { }

    record Link(int a, int b, int arc, int member) {
        boolean meets(int n) { return a == n || b == n; }
        int other(int n) { return a == n ? b : a; }
    }

    record Works(int size, IntBinaryOperator times, int twist, int places, List<Arc> arcs,
                 Truth keeps, Sum weighs, int lines) { }

    record Set(List<Integer> volts, TreeSet<Integer> cut, int twist) {
        Set copy() { return new Set(new ArrayList<>(volts), new TreeSet<>(cut), twist); }
    }

    static final class Fault extends RuntimeException {
        private static final long serialVersionUID = 1;
        final int kind;
        final int place;
        Fault(int kind, int place) { this.kind = kind; this.place = place; }
    }

    private String tape = "";
    private Works w = new Works(1, (x, y) -> 0, 0, 1, List.of(), null, null, 0);
    private Set set = new Set(new ArrayList<>(), new TreeSet<>(), 0);
    private final List<Set> undo = new ArrayList<>();
    private int faultKind = 0;
    private int faultPlace = -1;
    private final long[][] trays = new long[4][];
    private final int[] sorts = new int[4];
    private final Works[] imageWorks = new Works[2];
    private final Set[] imageSets = new Set[2];

    // ---- the text

    private record Tok(String s, int at, char kind) { }

    private static final class Parse {
        final List<Tok> toks = new ArrayList<>();
        final int length;
        int i = 0;
        int size;
        IntBinaryOperator times;

        Parse(String text) {
            length = text.length();
            Matcher m = Pattern.compile("[ \n]+|([a-z]+)|([0-9]+)|([-;:+*()\\[\\]=<>])|([\\s\\S])").matcher(text);
            while (m.find()) {
                if (m.group(1) != null) toks.add(new Tok(m.group(1), m.start(), 'w'));
                else if (m.group(2) != null) toks.add(new Tok(m.group(2), m.start(), m.group(2).length() > 3 ? 'x' : 'n'));
                else if (m.group(3) != null) toks.add(new Tok(m.group(3), m.start(), 's'));
                else if (m.group(4) != null) toks.add(new Tok(m.group(4), m.start(), 'x'));
            }
            toks.add(new Tok("", length, 'e'));
        }

        Tok now() { return toks.get(i); }

        Fault stand() { return new Fault(now().kind() == 'x' ? 1 : 2, now().at()); }

        boolean is(String s) { return now().kind() != 'x' && now().kind() != 'e' && now().s().equals(s); }

        void want(String s) { if (!is(s)) throw stand(); i++; }

        boolean maybe(String s) { if (is(s)) { i++; return true; } return false; }

        int n(int lo, int hi) {
            if (now().kind() != 'n') throw stand();
            int v = Integer.parseInt(now().s());
            if (v < lo || v > hi) throw new Fault(3, now().at());
            i++;
            return v;
        }

        int order(int x) {
            int p = x;
            int k = 1;
            while (p != 0) { p = times.applyAsInt(p, x); k++; }
            return k;
        }

        Works works() {
            want("works");
            kind();
            want("twist");
            int twist = n(0, 9);
            want(";");
            int lines = 1;
            Integer places = null;
            List<Arc> arcs = new ArrayList<>();
            Truth keeps = null;
            Sum weighs = null;
            while (now().kind() != 'e') {
                int p = (places == null ? 1 : places) - 1;
                if (is("places") && places == null && arcs.isEmpty()) {
                    i++;
                    places = n(1, 5);
                } else if (is("arc") || is("half")) {
                    if (arcs.size() == 12) throw new Fault(4, now().at());
                    boolean half = is("half");
                    i++;
                    int from = n(0, p);
                    int to = half ? from : n(0, p);
                    want("by");
                    int at = now().at();
                    int g = n(0, size - 1);
                    if (half && order(g) != 2) throw new Fault(3, at);
                    arcs.add(new Arc(from, to, g, half));
                } else if (maybe("keeps")) {
                    want(":");
                    keeps = truth(0);
                } else if (maybe("weighs")) {
                    want(":");
                    weighs = sum(0);
                } else {
                    throw stand();
                }
                want(";");
                lines++;
            }
            return new Works(size, times, twist, places == null ? 1 : places, arcs, keeps, weighs, lines);
        }

        void kind() {
            if (maybe("cyclic")) {
                int n = n(1, 12);
                size = n;
                times = (x, y) -> (x + y) % n;
            } else if (maybe("mirrors")) {
                int n = n(1, 6);
                size = 2 * n;
                times = (x, y) -> {
                    int k = x % n;
                    int l = y % n;
                    if (x < n && y < n) return (k + l) % n;
                    if (x < n) return n + (k + l) % n;
                    if (y < n) return n + Math.floorMod(k - l, n);
                    return Math.floorMod(k - l, n);
                };
            } else if (maybe("product")) {
                int a = n(1, 12);
                int at = now().at();
                int b = n(1, 12);
                if (a * b > 12) throw new Fault(3, at);
                size = a * b;
                times = (x, y) -> (x / b + y / b) % a * b + (x % b + y % b) % b;
            } else if (maybe("quaternions")) {
                size = 8;
                times = Oracle::hamilton;
            } else {
                throw stand();
            }
        }

        void deeper(int depth) { if (depth >= 6) throw new Fault(4, now().at()); i++; }

        Truth truth(int depth) {
            Truth t = both(depth);
            while (maybe("or")) {
                Truth a = t;
                Truth b = both(depth);
                t = (r, f, o, m, w) -> a.of(r, f, o, m, w) || b.of(r, f, o, m, w);
            }
            return t;
        }

        Truth both(int depth) {
            Truth t = unit(depth);
            while (maybe("and")) {
                Truth a = t;
                Truth b = unit(depth);
                t = (r, f, o, m, w) -> a.of(r, f, o, m, w) && b.of(r, f, o, m, w);
            }
            return t;
        }

        Truth unit(int depth) {
            if (is("not")) {
                deeper(depth);
                Truth a = unit(depth + 1);
                return (r, f, o, m, w) -> !a.of(r, f, o, m, w);
            }
            if (is("[")) {
                deeper(depth);
                Truth a = truth(depth + 1);
                want("]");
                return a;
            }
            Sum a = sum(depth);
            String sign = now().s();
            if (!is("=") && !is("<") && !is(">")) throw stand();
            i++;
            Sum b = sum(depth);
            return (r, f, o, m, w) -> {
                int c = Long.compare(a.of(r, f, o, m, w), b.of(r, f, o, m, w));
                return sign.equals("=") ? c == 0 : sign.equals("<") ? c < 0 : c > 0;
            };
        }

        static long keep(long v) { return v > 1000000 ? 1000000 : v < -1000000 ? -1000000 : v; }

        Sum sum(int depth) {
            Sum t = term(depth);
            while (is("+") || is("-")) {
                boolean plus = is("+");
                i++;
                Sum a = t;
                Sum b = term(depth);
                t = plus ? (r, f, o, m, w) -> keep(a.of(r, f, o, m, w) + b.of(r, f, o, m, w))
                    : (r, f, o, m, w) -> keep(a.of(r, f, o, m, w) - b.of(r, f, o, m, w));
            }
            return t;
        }

        Sum term(int depth) {
            Sum t = atom(depth);
            while (maybe("*")) {
                Sum a = t;
                Sum b = atom(depth);
                t = (r, f, o, m, w) -> keep(a.of(r, f, o, m, w) * b.of(r, f, o, m, w));
            }
            return t;
        }

        Sum atom(int depth) {
            if (now().kind() == 'n') {
                long v = Long.parseLong(now().s());
                i++;
                return (r, f, o, m, w) -> v;
            }
            if (is("(")) {
                deeper(depth);
                Sum a = sum(depth + 1);
                want(")");
                return a;
            }
            if (is("if")) {
                deeper(depth);
                Truth c = truth(depth + 1);
                want("then");
                Sum a = sum(depth + 1);
                want("else");
                Sum b = sum(depth + 1);
                want("end");
                return (r, f, o, m, w) -> c.of(r, f, o, m, w) ? a.of(r, f, o, m, w) : b.of(r, f, o, m, w);
            }
            if (maybe("arc")) return (r, f, o, m, w) -> r;
            if (maybe("from")) return (r, f, o, m, w) -> f;
            if (maybe("to")) return (r, f, o, m, w) -> o;
            if (maybe("member")) return (r, f, o, m, w) -> m;
            if (maybe("twist")) return (r, f, o, m, w) -> w;
            throw stand();
        }
    }

    /** Quaternions as four coordinates, multiplied by the book. */
    private static int hamilton(int x, int y) {
        int[] a = new int[4];
        int[] b = new int[4];
        a[x % 4] = x < 4 ? 1 : -1;
        b[y % 4] = y < 4 ? 1 : -1;
        int[] c = {
            a[0] * b[0] - a[1] * b[1] - a[2] * b[2] - a[3] * b[3],
            a[0] * b[1] + a[1] * b[0] + a[2] * b[3] - a[3] * b[2],
            a[0] * b[2] - a[1] * b[3] + a[2] * b[0] + a[3] * b[1],
            a[0] * b[3] + a[1] * b[2] - a[2] * b[1] + a[3] * b[0]};
        for (int i = 0; i < 4; i++) {
            if (c[i] == 1) return i;
            if (c[i] == -1) return i + 4;
        }
        throw new IllegalStateException();
    }

    // ---- the works

    int feed(int... v) {
        if (tape.length() + 20 > 900) return -5;
        StringBuilder b = new StringBuilder(tape);
        for (int x : v) for (int s = 24; s >= 0; s -= 8) b.append((char) (x >>> s & 255));
        tape = b.toString();
        return tape.length();
    }

    int works(int n) {
        if (n < 0 || n > tape.length()) return -3;
        String text = tape.substring(0, n);
        tape = "";
        try {
            Works told = new Parse(text).works();
            w = told;
        } catch (Fault f) {
            faultKind = f.kind;
            faultPlace = f.place;
            return -30 - f.kind;
        }
        faultKind = 0;
        faultPlace = -1;
        set = new Set(new ArrayList<>(), new TreeSet<>(), w.twist());
        for (Arc a : w.arcs()) set.volts().add(a.told());
        undo.clear();
        return w.lines();
    }

    int fault(int what) { return what == 0 ? faultKind : what == 1 ? faultPlace : -1; }

    int arc(int a, int what) {
        if (a < 0 || a >= w.arcs().size()) return -2;
        Arc c = w.arcs().get(a);
        if (what == 0) return c.from();
        if (what == 1) return c.to();
        if (what == 2) return set.volts().get(a);
        if (what == 3) return c.half() ? 1 : 0;
        if (what == 4) return set.cut().contains(a) ? 1 : 0;
        return -2;
    }

    // ---- the group

    private boolean member(long x) { return x >= 0 && x < w.size(); }

    private int times(int x, int y) { return w.times().applyAsInt(x, y); }

    int product(int x, int y) { return member(x) && member(y) ? times(x, y) : -2; }

    int inverse(int x) {
        for (int y = 0; y < w.size(); y++) if (member(x) && times(x, y) == 0 && times(y, x) == 0) return y;
        return -2;
    }

    int orderOf(int x) {
        if (!member(x)) return -2;
        int p = 0;
        for (int k = 1; ; k++) {
            p = times(p, x);
            if (p == 0) return k;
        }
    }

    int centre() {
        int c = 0;
        for (int x = 0; x < w.size(); x++) {
            int good = 0;
            for (int y = 0; y < w.size(); y++) if (times(x, y) == times(y, x)) good++;
            if (good == w.size()) c++;
        }
        return c;
    }

    // ---- deeds

    /** The setting behind a deed; null with why[0] set if it can't be. */
    private Set deed(Set s, long v, int[] why) {
        Set t = s.copy();
        why[0] = 1;
        if (v >= 10 && v < 20) {
            why[0] = 0;
            return new Set(t.volts(), t.cut(), (int) v - 10);
        }
        if (v >= 100 && v < 112) {
            int a = (int) v - 100;
            if (a >= w.arcs().size()) return null;
            if (!t.cut().remove(a)) t.cut().add(a);
            why[0] = 0;
            return t;
        }
        if (v >= 1000 && v < 2200) {
            int a = (int) (v / 100) - 10;
            int g = (int) (v % 100);
            if (a >= w.arcs().size() || !member(g)) return null;
            if (w.arcs().get(a).half() && orderOf(g) != 2) {
                why[0] = 2;
                return null;
            }
            t.volts().set(a, g);
            why[0] = 0;
            return t;
        }
        return null;
    }

    private void done(Set to) {
        undo.add(set);
        if (undo.size() > 10) undo.remove(0);
        set = to;
    }

    int turn(int a, int g) {
        if (a < 0 || a > 11 || g < 0 || g > 99) return -11;
        int[] why = new int[1];
        Set t = deed(set, 1000 + 100 * a + g, why);
        if (t == null) return -10 - why[0];
        int old = set.volts().get(a);
        done(t);
        return old;
    }

    int cut(int a) {
        if (a < 0 || a > 11) return -11;
        Set t = deed(set, 100 + a, new int[1]);
        if (t == null) return -11;
        done(t);
        return t.cut().contains(a) ? 1 : 0;
    }

    int twist(int n) {
        if (n < 0 || n > 9) return -11;
        int old = set.twist();
        done(deed(set, 10 + n, new int[1]));
        return old;
    }

    int undo(int n) {
        if (n < 1 || n > 10 || n > undo.size()) return -3;
        for (int i = 0; i < n; i++) set = undo.remove(undo.size() - 1);
        return undo.size();
    }

    int judge(int tray, int what) {
        if (tray < 0 || tray > 3 || what < 0 || what > 3) return -2;
        if (trays[tray] == null) return -6;
        Set s = set;
        int[] why = new int[1];
        int place = -1;
        for (int i = 0; i < trays[tray].length && place < 0; i++) {
            Set t = deed(s, trays[tray][i], why);
            if (t == null) place = i; else s = t;
        }
        if (what == 0) return place;
        if (what == 1) return place < 0 ? 0 : why[0];
        List<Link> links = links(s);
        return what == 2 ? girth(links) : links.size();
    }

    int perform(int tray) {
        if (tray < 0 || tray > 3) return -2;
        if (trays[tray] == null) return -6;
        Set s = set;
        int many = 0;
        for (long v : trays[tray]) {
            Set t = deed(s, v, new int[1]);
            if (t == null) break;
            s = t;
            many++;
        }
        if (many > 0) done(s);
        return many;
    }

    int day(int seed, int times) {
        if (times < 1 || times > 40) return -3;
        long x = seed & 0xffffffffL;
        Set s = set;
        int many = 0;
        for (int i = 0; i < times; i++) {
            long[] d = new long[3];
            for (int j = 0; j < 3; j++) {
                if (j == 2 && d[0] % 4 < 2) continue;
                x = x * 1103515245L + 12345L & 0xffffffffL;
                d[j] = x >> 16;
            }
            long v = d[0] % 4 == 0 ? 10 + d[1] % 10 : d[0] % 4 == 1 ? 100 + d[1] % 12 : 1000 + d[1] % 12 * 100 + d[2] % 12;
            Set t = deed(s, v, new int[1]);
            if (t != null) {
                s = t;
                many++;
            }
        }
        if (many > 0) done(s);
        return many;
    }

    // ---- the network

    private int nodes() { return w.places() * w.size(); }

    private boolean node(int n) { return n >= 0 && n < nodes(); }

    private List<Link> links(Set s) {
        List<Link> all = new ArrayList<>();
        for (int i = 0; i < w.arcs().size(); i++) {
            Arc a = w.arcs().get(i);
            for (int x = 0; x < w.size(); x++) {
                int y = times(x, s.volts().get(i));
                boolean holds = w.keeps() == null || w.keeps().of(i, a.from(), a.to(), x, s.twist());
                if (s.cut().contains(i) || !holds || a.half() && y <= x) continue;
                all.add(new Link(a.from() * w.size() + x, a.to() * w.size() + y, i, x));
            }
        }
        return all;
    }

    private List<Link> links() { return links(set); }

    private int weight(int arc, int member, int twist) {
        if (w.weighs() == null) return 1;
        Arc a = w.arcs().get(arc);
        long v = w.weighs().of(arc, a.from(), a.to(), member, twist);
        return v < 1 ? 1 : v > 99 ? 99 : (int) v;
    }

    int joins(int a, int b) {
        if (!node(a) || !node(b)) return -2;
        int c = 0;
        for (Link l : links()) if (l.meets(a) && l.other(a) == b) c++;
        return c;
    }

    int degree(int n) {
        if (!node(n)) return -2;
        int c = 0;
        for (Link l : links()) c += (l.a() == n ? 1 : 0) + (l.b() == n ? 1 : 0);
        return c;
    }

    private static List<Integer> near(List<Link> links, int n) {
        TreeSet<Integer> s = new TreeSet<>();
        for (Link l : links) if (l.meets(n)) s.add(l.other(n));
        s.remove(n);
        return new ArrayList<>(s);
    }

    int neighbour(int n, int i) {
        if (!node(n)) return -2;
        if (i < 0) return -3;
        List<Integer> s = near(links(), n);
        return i < s.size() ? s.get(i) : -1;
    }

    int regular() {
        TreeSet<Integer> d = new TreeSet<>();
        for (int n = 0; n < nodes(); n++) d.add(degree(n));
        return d.size() == 1 ? d.first() : -1;
    }

    private int[][] fars(List<Link> links, boolean weighed) {
        int n = nodes();
        int[][] d = new int[n][n];
        for (int i = 0; i < n; i++) {
            Arrays.fill(d[i], 1 << 28);
            d[i][i] = 0;
        }
        for (Link l : links) {
            int v = weighed ? weight(l.arc(), l.member(), set.twist()) : 1;
            if (l.a() != l.b()) {
                d[l.a()][l.b()] = Math.min(d[l.a()][l.b()], v);
                d[l.b()][l.a()] = d[l.a()][l.b()];
            }
        }
        for (int k = 0; k < n; k++)
            for (int i = 0; i < n; i++)
                for (int j = 0; j < n; j++) d[i][j] = Math.min(d[i][j], d[i][k] + d[k][j]);
        return d;
    }

    int parts() {
        int[][] d = fars(links(), false);
        int c = 0;
        for (int i = 0; i < nodes(); i++) {
            boolean least = true;
            for (int j = 0; j < i; j++) least &= d[i][j] >= 1 << 28;
            if (least) c++;
        }
        return c;
    }

    /** Two colours are enough if and only if no closed way is odd: asked of the doubled network. */
    int twoColours() {
        int n = nodes();
        int[] root = new int[2 * n];
        for (int i = 0; i < 2 * n; i++) root[i] = i;
        for (Link l : links()) {
            join(root, l.a(), l.b() + n);
            join(root, l.a() + n, l.b());
        }
        for (int i = 0; i < n; i++) if (top(root, i) == top(root, i + n)) return 0;
        return 1;
    }

    private static int top(int[] root, int i) {
        while (root[i] != i) i = root[i];
        return i;
    }

    private static void join(int[] root, int a, int b) { root[top(root, a)] = top(root, b); }

    int far(int a, int b) {
        if (!node(a) || !node(b)) return -2;
        int d = fars(links(), false)[a][b];
        return d >= 1 << 28 ? -1 : d;
    }

    int diameter() {
        int most = 0;
        for (int[] row : fars(links(), false)) for (int v : row) most = Math.max(most, v);
        return most >= 1 << 28 ? -1 : most;
    }

    int ball(int n, int r) {
        if (!node(n)) return -2;
        if (r < 0 || r > 99) return -3;
        int c = 0;
        for (int v : fars(links(), false)[n]) if (v <= r) c++;
        return c;
    }

    // ---- rings

    /** Links from a to b without one of the links; -1 if there is no way. */
    private static int around(List<Link> links, Link without, int a, int b, int nodes) {
        int[] d = new int[nodes];
        Arrays.fill(d, -1);
        d[a] = 0;
        Deque<Integer> q = new ArrayDeque<>(List.of(a));
        while (!q.isEmpty()) {
            int u = q.poll();
            for (Link l : links) {
                if (l != without && l.meets(u) && d[l.other(u)] < 0) {
                    d[l.other(u)] = d[u] + 1;
                    q.add(l.other(u));
                }
            }
        }
        return d[b];
    }

    private int girth(List<Link> links) {
        int best = -1;
        for (Link l : links) {
            int d = around(links, l, l.a(), l.b(), nodes());
            if (d >= 0 && (best < 0 || d + 1 < best)) best = d + 1;
        }
        return best;
    }

    int girth() { return girth(links()); }

    /** The least of all rings of a length as rows of nodes, each from its least one on. */
    private List<Integer> first() {
        List<Link> links = links();
        int g = girth(links);
        if (g < 0) return List.of();
        if (g == 1) {
            int least = 99;
            for (Link l : links) if (l.a() == l.b()) least = Math.min(least, l.a());
            return List.of(least);
        }
        if (g == 2) {
            for (int a = 0; a < nodes(); a++)
                for (int b = a + 1; b < nodes(); b++) if (joins(a, b) > 1) return List.of(a, b);
        }
        List<List<Integer>> near = new ArrayList<>();
        for (int n = 0; n < nodes(); n++) near.add(near(links, n));
        int[][] d = fars(links, false);
        for (int s = 0; s < nodes(); s++) {
            List<Integer> row = new ArrayList<>(List.of(s));
            if (grow(row, g, near, d)) return row;
        }
        throw new IllegalStateException();
    }

    private static boolean grow(List<Integer> row, int g, List<List<Integer>> near, int[][] d) {
        int s = row.get(0);
        int at = row.get(row.size() - 1);
        if (row.size() == g) return near.get(at).contains(s) && row.get(1) < at;
        for (int v : near.get(at)) {
            if (v <= s || row.contains(v) || d[v][s] > g - row.size()) continue;
            row.add(v);
            if (grow(row, g, near, d)) return true;
            row.remove(row.size() - 1);
        }
        return false;
    }

    int ring(int i) {
        if (i < 0) return -3;
        List<Integer> row = first();
        return i < row.size() ? row.get(i) : -1;
    }

    int rings(int length) {
        if (length < 1 || length > 6) return -3;
        List<Link> links = links();
        int[][] m = new int[nodes()][nodes()];
        int self = 0;
        for (Link l : links) {
            if (l.a() == l.b()) self++;
            else {
                m[l.a()][l.b()]++;
                m[l.b()][l.a()]++;
            }
        }
        if (length == 1) return self;
        if (length == 2) {
            int c = 0;
            for (Link l : links) for (Link k : links) if (l != k && l.a() != l.b() && k.meets(l.a()) && k.other(l.a()) == l.b()) c++;
            return c / 2;
        }
        long c = 0;
        for (int s = 0; s < nodes(); s++) c += rounds(m, new int[length], 0, s, 1L << s);
        return (int) (c / 2);
    }

    private static long rounds(int[][] m, int[] row, int k, int at, long used) {
        row[k] = at;
        if (k == row.length - 1) return m[at][row[0]];
        long c = 0;
        for (int v = row[0] + 1; v < m.length; v++) {
            if (m[at][v] > 0 && (used >> v & 1) == 0) c += m[at][v] * rounds(m, row, k + 1, v, used | 1L << v);
        }
        return c;
    }

    int through(int n) {
        if (!node(n)) return -2;
        List<Link> links = links();
        int best = -1;
        for (Link l : links) {
            if (!l.meets(n)) continue;
            int d = around(links, l, n, l.other(n), nodes());
            if (d >= 0 && (best < 0 || d + 1 < best)) best = d + 1;
        }
        return best;
    }

    long bound(int d, int g) {
        if (d < 2 || d > 9 || g < 3 || g > 12) return -3;
        long sum = 0;
        if (g % 2 == 1) {
            for (int i = 0; i <= (g - 3) / 2; i++) sum += Math.round(Math.pow(d - 1, i));
            return 1 + d * sum;
        }
        for (int i = 0; i <= g / 2 - 1; i++) sum += Math.round(Math.pow(d - 1, i));
        return 2 * sum;
    }

    long excess() {
        int d = regular();
        int g = girth();
        if (d < 0 || g < 0) return -1;
        long b = bound(d, g);
        return b < 0 ? -1 : nodes() - b;
    }

    int light(int a, int b) {
        if (!node(a) || !node(b)) return -2;
        int d = fars(links(), true)[a][b];
        return d >= 1 << 28 ? -1 : d;
    }

    int lightest() {
        List<Link> links = links();
        int best = -1;
        for (Link without : links) {
            int own = weight(without.arc(), without.member(), set.twist());
            long[] d = new long[nodes()];
            Arrays.fill(d, 1 << 28);
            d[without.a()] = 0;
            boolean better = true;
            while (better) {
                better = false;
                for (Link l : links) {
                    if (l == without) continue;
                    int v = weight(l.arc(), l.member(), set.twist());
                    if (d[l.a()] + v < d[l.b()]) { d[l.b()] = d[l.a()] + v; better = true; }
                    if (d[l.b()] + v < d[l.a()]) { d[l.a()] = d[l.b()] + v; better = true; }
                }
            }
            if (d[without.b()] < 1 << 28 && (best < 0 || d[without.b()] + own < best)) best = (int) d[without.b()] + own;
        }
        return best;
    }

    // ---- walks

    private int[] walked(int tray) {
        if (tray < 0 || tray > 3) return new int[] {-2};
        if (trays[tray] == null) return new int[] {-6};
        if (trays[tray].length < 1 || trays[tray].length > 12) return new int[] {-4};
        int v = 0;
        int begin = -1;
        int at = -1;
        for (long s : trays[tray]) {
            if (s < 0 || s / 2 >= w.arcs().size()) return new int[] {-3};
            Arc a = w.arcs().get((int) (s / 2));
            boolean back = s % 2 == 1;
            int from = back ? a.to() : a.from();
            if (at >= 0 && at != from) return new int[] {-3};
            if (begin < 0) begin = from;
            at = back ? a.from() : a.to();
            int g = set.volts().get((int) (s / 2));
            v = times(v, back ? inverse(g) : g);
        }
        return new int[] {v, begin, at};
    }

    int walk(int tray) { return walked(tray)[0]; }

    int lifted(int tray) {
        int[] r = walked(tray);
        if (r.length == 1) return r[0];
        return r[1] != r[2] ? -1 : trays[tray].length * orderOf(r[0]);
    }

    private int[] best(int a) {
        if (a < 0 || a >= w.arcs().size()) return new int[] {-2, -2};
        TreeMap<Integer, Integer> by = new TreeMap<>();
        for (int g = w.size() - 1; g >= 0; g--) {
            if (w.arcs().get(a).half() && orderOf(g) != 2) continue;
            Set s = set.copy();
            s.volts().set(a, g);
            int r = girth(links(s));
            by.put(r < 0 ? 1 << 20 : r, g);
        }
        int r = by.lastKey();
        return new int[] {by.get(r), r == 1 << 20 ? -1 : r};
    }

    int tune(int a) { return best(a)[0]; }

    int tuned(int a) { return best(a)[1]; }

    // ---- the search

    private static final class Open extends RuntimeException {
        private static final long serialVersionUID = 1;
    }

    private static final class Hunt {
        final int d;
        final int g;
        final int n;
        final boolean[][] on;
        final TreeSet<Integer> shut = new TreeSet<>();
        int steps = 0;
        int shuts = 0;
        int state;

        Hunt(int d, int g, int n) {
            this.d = d;
            this.g = g;
            this.n = n;
            on = new boolean[n][n];
            try {
                state = step() ? 1 : 0;
            } catch (Open o) {
                state = 2;
            }
        }

        int deg(int u) {
            int c = 0;
            for (boolean b : on[u]) if (b) c++;
            return c;
        }

        int far(int a, int b) {
            int[] dist = new int[n];
            Arrays.fill(dist, 99);
            dist[a] = 0;
            for (int round = 0; round < n; round++)
                for (int u = 0; u < n; u++)
                    for (int v = 0; v < n; v++) if (on[u][v]) dist[v] = Math.min(dist[v], dist[u] + 1);
            return dist[b];
        }

        boolean step() {
            if (steps == 5000) throw new Open();
            steps++;
            int u = 0;
            while (u < n && deg(u) >= d) u++;
            if (u == n) return true;
            List<Integer> partners = new ArrayList<>();
            boolean lone = true;
            for (int v = u + 1; v < n; v++) {
                if (deg(v) == 0) {
                    if (lone && !shut.contains(u * 100 + v)) partners.add(v);
                    lone = false;
                } else if (deg(v) < d && far(u, v) >= g - 1 && !shut.contains(u * 100 + v)) {
                    partners.add(v);
                }
            }
            List<Integer> mine = new ArrayList<>();
            for (int v : partners) {
                on[u][v] = true;
                on[v][u] = true;
                if (step()) return true;
                on[u][v] = false;
                on[v][u] = false;
                shut.add(u * 100 + v);
                mine.add(u * 100 + v);
                shuts++;
            }
            shut.removeAll(mine);
            return false;
        }
    }

    private static boolean huntable(int d, int g, int n) { return d >= 2 && d <= 4 && g >= 3 && g <= 8 && n >= 1 && n <= 14; }

    int search(int d, int g, int n, int what) {
        if (what < 0 || what > 2) return -2;
        if (!huntable(d, g, n)) return -3;
        Hunt h = new Hunt(d, g, n);
        return what == 0 ? h.state : what == 1 ? h.steps : h.shuts;
    }

    int found(int d, int g, int n, int a, int b) {
        if (!huntable(d, g, n) || a < 0 || b < 0 || a >= n || b >= n) return -3;
        Hunt h = new Hunt(d, g, n);
        return h.state != 1 ? -1 : h.on[a][b] ? 1 : 0;
    }

    // ---- weighed

    int twists(int tray) {
        if (tray < 0 || tray > 3) return -2;
        if (trays[tray] == null) return -6;
        if (trays[tray].length < 1 || trays[tray].length > 8) return -4;
        for (long v : trays[tray]) {
            if (v < 0 || v >= 10000L * w.arcs().size() || !member(v % 10000 / 100) || v % 100 == 0) return -3;
        }
        int bits = 0;
        for (int t = 0; t < 10; t++) {
            boolean so = true;
            for (long v : trays[tray]) so &= weight((int) (v / 10000), (int) (v % 10000 / 100), t) == v % 100;
            if (so) bits += 1 << t;
        }
        return bits;
    }

    int weigh(int tray) {
        int bits = twists(tray);
        if (bits <= 0) return bits == 0 ? -1 : bits;
        int best = -1;
        int least = 99;
        for (int a = 0; a < w.arcs().size(); a++) {
            for (int x = 0; x < w.size(); x++) {
                int[] many = new int[100];
                int most = 0;
                for (int t = 0; t < 10; t++) if ((bits >> t & 1) == 1) most = Math.max(most, ++many[weight(a, x, t)]);
                if (most < least) {
                    least = most;
                    best = 100 * a + x;
                }
            }
        }
        return best;
    }

    // ---- chances

    private List<Integer> outcomes(int n) {
        List<Set> sets = List.of(set);
        for (int i = 0; i < n; i++) {
            List<Set> more = new ArrayList<>();
            for (Set s : sets) {
                for (int v = 0; v < 10; v++) {
                    Set t = s.copy();
                    if (v < w.arcs().size() && !w.arcs().get(v).half() && w.size() > 1) t.volts().set(v, times(t.volts().get(v), 1));
                    more.add(t);
                }
            }
            sets = more;
        }
        List<Integer> all = new ArrayList<>();
        for (Set s : sets) all.add(girth(links(s)));
        return all;
    }

    private static int fraction(int above, int below, int what) {
        int g = java.math.BigInteger.valueOf(above).gcd(java.math.BigInteger.valueOf(below)).intValue();
        return what == 0 ? above / g : below / g;
    }

    int chance(int k, int n, int what) {
        if (what < 0 || what > 1) return -2;
        if (k < 1 || k > 60 || n < 0 || n > 2) return -3;
        List<Integer> all = outcomes(n);
        int c = 0;
        for (int g : all) if (g < 0 || g >= k) c++;
        return fraction(c, all.size(), what);
    }

    int mean(int n, int what) {
        if (what < 0 || what > 1) return -2;
        if (n < 0 || n > 2) return -3;
        List<Integer> all = outcomes(n);
        int c = 0;
        for (int g : all) c += Math.max(0, g);
        return fraction(c, all.size(), what);
    }

    // ---- trays, images

    int numbers(int tray, int sort, int n) {
        if (tray < 0 || tray > 3 || sort < 0 || sort > 3) return -2;
        if (n < 0 || n > 40) return -3;
        trays[tray] = new long[n];
        sorts[tray] = sort;
        return 0;
    }

    long write(int tray, int i, long v) {
        if (tray < 0 || tray > 3) return -2;
        if (trays[tray] == null) return -6;
        if (i < 0 || i >= trays[tray].length) return -7;
        int unused = 64 - (8 << sorts[tray]);
        trays[tray][i] = v << unused >> unused;
        return trays[tray][i];
    }

    int lists(int tray) {
        if (tray < 0 || tray > 3) return -2;
        if (trays[tray] == null) return -6;
        List<Integer> row = first();
        if (row.isEmpty()) return -5;
        int c = 0;
        while (c < row.size() && c < trays[tray].length) {
            trays[tray][c] = row.get(c);
            c++;
        }
        return c;
    }

    int image(int i) {
        if (i != 0 && i != 1) return -2;
        imageWorks[i] = w;
        imageSets[i] = set;
        return 0;
    }

    int restore(int i) {
        if (i != 0 && i != 1) return -2;
        if (imageWorks[i] == null) return -5;
        w = imageWorks[i];
        set = imageSets[i];
        undo.clear();
        return 0;
    }

    int count(int what) {
        switch (what) {
            case 0: return w.places();
            case 1: return w.arcs().size();
            case 2: return w.size();
            case 3: return set.twist();
            case 4: return nodes();
            case 5: return links().size();
            case 6: {
                int bits = 0;
                for (int a : set.cut()) bits += 1 << a;
                return bits;
            }
            case 7: return undo.size();
            case 8: return tape.length();
            case 9: return w.lines();
            default: return -1;
        }
    }
}
