import java.util.Random;

/** Runs of calls by lots (of a fixed seed), each answer held against the slow telling of the document. */
public final class OracleTest {
    private static final String[] PIECES = {
        "works", "cyclic", "mirrors", "product", "quaternions", "twist", "places", "arc", "half", "by", "keeps",
        "weighs", "if", "then", "else", "end", "from", "to", "member", "not", "and", "or", ";", ":", "+", "-", "*",
        "(", ")", "[", "]", "=", "<", ">", "0", "1", "2", "3", "12", "13", "999", "1000", "007", "#", "A", "wor",
        "worksx", "1a", "\t", "\n", " ", "\u00e9", "\u0000", "", "placesplaces"};

    private final Random lots;
    private CageLift x;
    private Oracle o;
    private final StringBuilder told = new StringBuilder();
    private int wrong = 0;
    private final java.util.TreeMap<String, Integer> plain = new java.util.TreeMap<>();

    private OracleTest(long seed) { lots = new Random(seed); }

    public static void main(String[] args) {
        long runs = args.length > 0 ? Long.parseLong(args[0]) : 400;
        long base = args.length > 1 ? Long.parseLong(args[1]) : 1;
        int wrong = 0;
        java.util.TreeMap<String, Integer> plain = new java.util.TreeMap<>();
        for (long run = 0; run < runs && wrong == 0; run++) {
            OracleTest t = new OracleTest(base * 1000003 + run);
            t.run(run % 4 == 0);
            wrong += t.wrong;
            t.plain.forEach((k, v) -> plain.merge(k, v, Integer::sum));
        }
        System.out.println(plain);
        System.out.println(wrong == 0 ? runs + " runs agree" : "runs disagree");
        if (wrong != 0) System.exit(1);
    }

    private int in(int lo, int hi) { return lo + lots.nextInt(hi - lo + 1); }

    private String any(String... s) { return s[lots.nextInt(s.length)]; }

    // ---- texts

    private String sum(int depth) {
        StringBuilder b = new StringBuilder(term(depth));
        while (lots.nextInt(3) == 0) b.append(any(" + ", "-", " - ")).append(term(depth));
        return b.toString();
    }

    private String term(int depth) {
        StringBuilder b = new StringBuilder(atom(depth));
        while (lots.nextInt(4) == 0) b.append(" * ").append(atom(depth));
        return b.toString();
    }

    private String atom(int depth) {
        int r = lots.nextInt(depth > 0 ? 9 : 6);
        if (r == 6 || r == 7) return "(" + sum(depth - 1) + ")";
        if (r == 8) return "if " + truth(depth - 1) + " then " + sum(depth - 1) + " else " + sum(depth - 1) + " end";
        if (r == 0) return "" + any("0", "1", "2", "3", "5", "10", "99", "999");
        return any("arc", "from", "to", "member", "twist");
    }

    private String truth(int depth) {
        StringBuilder b = new StringBuilder(both(depth));
        while (lots.nextInt(4) == 0) b.append(" or ").append(both(depth));
        return b.toString();
    }

    private String both(int depth) {
        StringBuilder b = new StringBuilder(unit(depth));
        while (lots.nextInt(4) == 0) b.append(" and ").append(unit(depth));
        return b.toString();
    }

    private String unit(int depth) {
        int r = lots.nextInt(depth > 0 ? 6 : 4);
        if (r == 4) return "not " + unit(depth - 1);
        if (r == 5) return "[" + truth(depth - 1) + "]";
        return sum(depth) + any(" = ", "<", " > ", " < ", ">") + sum(depth);
    }

    /** A text of the language, most often one without a fault. */
    private String text() {
        StringBuilder b = new StringBuilder("works ");
        int size;
        int kind = lots.nextInt(5);
        int half = 0;
        if (kind == 0 || kind == 4) {
            size = in(1, 12);
            b.append("cyclic ").append(size);
            half = size / 2;
        } else if (kind == 1) {
            int n = in(1, 6);
            size = 2 * n;
            b.append("mirrors ").append(n);
            half = n + lots.nextInt(n);
        } else if (kind == 2) {
            int n = in(1, 12);
            int m = in(1, 12 / n);
            size = n * m;
            b.append("product ").append(n).append(' ').append(m);
            half = n % 2 == 0 ? n / 2 * m : m / 2;
        } else {
            size = 8;
            b.append("quaternions");
            half = 4;
        }
        b.append(" twist ").append(in(0, 9)).append(";");
        int places = in(1, 5);
        if (places > 1) b.append("places ").append(places).append(any(";", " ; ", ";\n"));
        int law = lots.nextInt(4);
        if (law == 0) b.append("keeps:").append(truth(2)).append(';');
        int arcs = lots.nextInt(3) == 0 ? in(0, 12) : in(1, 6);
        for (int i = 0; i < arcs; i++) {
            if (lots.nextInt(4) == 0 && half > 0) b.append("half ").append(lots.nextInt(places)).append(" by ").append(half);
            else b.append("arc ").append(lots.nextInt(places)).append(' ').append(lots.nextInt(places)).append(" by ").append(lots.nextInt(size));
            b.append(';');
        }
        if (law == 1 || law == 0 && lots.nextInt(4) == 0) b.append("keeps : ").append(lots.nextInt(3) > 0 ? "not " + unit(3) : truth(lots.nextInt(8))).append(';');
        if (lots.nextInt(2) == 0) b.append("weighs : ").append(sum(lots.nextInt(8))).append(";");
        return b.toString();
    }

    private String spoiled(String text) {
        StringBuilder b = new StringBuilder(text);
        for (int i = in(1, 2); i > 0; i--) {
            int at = lots.nextInt(b.length() + 1);
            int r = lots.nextInt(5);
            if (r == 0) b.insert(at, any(PIECES));
            else if (r == 1) b.insert(at, " " + any(PIECES) + " ");
            else if (r == 2) b.delete(at, Math.min(b.length(), at + in(1, 4)));
            else if (r == 3) b.replace(at, Math.min(b.length(), at + in(1, 3)), any(PIECES));
            else b.setLength(at);
        }
        return b.toString();
    }

    private void tellText(String text) {
        String t = text.length() > 900 ? text.substring(0, 900) : text;
        int n = t.length();
        StringBuilder b = new StringBuilder(t);
        while (b.length() % 20 != 0) b.append(' ');
        for (int i = 0; i < b.length(); i += 20) {
            int[] v = new int[5];
            for (int j = 0; j < 20; j++) v[j / 4] = v[j / 4] << 8 | b.charAt(i + j) & 255;
            due("feed(..)", x.feed(v[0], v[1], v[2], v[3], v[4]), o.feed(v));
        }
        told.append("text ").append(t.replace("\n", "\\n")).append('\n');
        due("works(" + n + ")", x.works(n), o.works(n));
        due("fault(0)", x.fault(0), o.fault(0));
        due("fault(1)", x.fault(1), o.fault(1));
        for (int i = 0; i <= 9; i++) due("count(" + i + ")", x.count(i), o.count(i));
    }

    // ---- calls

    private void due(String call, long got, long want) {
        told.append(call).append(" -> ").append(want).append('\n');
        if (want >= 0) plain.merge(call.substring(0, call.indexOf('(')), 1, Integer::sum);
        if (got != want) {
            wrong++;
            if (wrong < 5) System.out.println(told + "## " + call + " answered " + got + ", due is " + want);
        }
    }

    private void run(boolean manyTexts) {
        x = new CageLift();
        o = new Oracle();
        int calls = in(20, 120);
        for (int i = 0; i < calls && wrong == 0; i++) {
            if (i == 3 || lots.nextInt(manyTexts ? 6 : 60) == 0) {
                String t = text();
                tellText(lots.nextInt(manyTexts ? 2 : 6) == 0 ? spoiled(t) : t);
            } else if (lots.nextInt(5) == 0) {
                trayCalls();
            } else if (lots.nextInt(3) == 0) {
                deed();
            } else {
                ask();
            }
        }
    }

    private int node() { return lots.nextInt(8) == 0 ? in(-2, 62) : lots.nextInt(Math.max(1, o.count(4))); }

    private int arcNumber() { return lots.nextInt(8) == 0 ? in(-1, 13) : lots.nextInt(Math.max(1, o.count(1))); }

    private int member() { return lots.nextInt(8) == 0 ? in(-1, 13) : lots.nextInt(o.count(2)); }

    private void deed() {
        int a = arcNumber();
        int g = member();
        int n;
        switch (lots.nextInt(8)) {
            case 0: case 1: due("turn(" + a + ", " + g + ")", x.turn(a, g), o.turn(a, g)); break;
            case 2: due("cut(" + a + ")", x.cut(a), o.cut(a)); break;
            case 3: n = in(-1, 10); due("twist(" + n + ")", x.twist(n), o.twist(n)); break;
            case 4: n = lots.nextInt(3) == 0 ? in(-1, 12) : in(1, 2); due("undo(" + n + ")", x.undo(n), o.undo(n)); break;
            case 5: {
                int seed = lots.nextInt();
                n = lots.nextInt(6) == 0 ? in(-1, 42) : in(1, 5);
                due("day(" + seed + ", " + n + ")", x.day(seed, n), o.day(seed, n));
                break;
            }
            case 6: n = in(-1, 2); due("image(" + n + ")", x.image(n), o.image(n)); break;
            default: n = in(-1, 2); due("restore(" + n + ")", x.restore(n), o.restore(n)); break;
        }
        for (int i = 3; i <= 7; i++) due("count(" + i + ")", x.count(i), o.count(i));
        due("arc(" + a + ", 2)", x.arc(a, 2), o.arc(a, 2));
    }

    private void ask() {
        int a = node();
        int b = node();
        int n;
        switch (lots.nextInt(31)) {
            case 0: due("joins(" + a + ", " + b + ")", x.joins(a, b), o.joins(a, b)); break;
            case 1: due("degree(" + a + ")", x.degree(a), o.degree(a)); break;
            case 2: n = in(-1, 5); due("neighbour(" + a + ", " + n + ")", x.neighbour(a, n), o.neighbour(a, n)); break;
            case 3: due("regular()", x.regular(), o.regular()); break;
            case 4: due("parts()", x.parts(), o.parts()); break;
            case 5: due("twoColours()", x.twoColours(), o.twoColours()); break;
            case 6: due("far(" + a + ", " + b + ")", x.far(a, b), o.far(a, b)); break;
            case 7: due("diameter()", x.diameter(), o.diameter()); break;
            case 8: n = lots.nextInt(5) == 0 ? in(-1, 101) : in(0, 5); due("ball(" + a + ", " + n + ")", x.ball(a, n), o.ball(a, n)); break;
            case 9: due("girth()", x.girth(), o.girth()); break;
            case 10: for (int i = -1; i < 12; i++) due("ring(" + i + ")", x.ring(i), o.ring(i)); break;
            case 11: n = in(0, 7); due("rings(" + n + ")", x.rings(n), o.rings(n)); break;
            case 12: due("through(" + a + ")", x.through(a), o.through(a)); break;
            case 13: { int d = in(1, 10); int g = in(2, 13); due("bound(" + d + ", " + g + ")", x.bound(d, g), o.bound(d, g)); break; }
            case 14: due("excess()", x.excess(), o.excess()); break;
            case 15: due("light(" + a + ", " + b + ")", x.light(a, b), o.light(a, b)); break;
            case 16: due("lightest()", x.lightest(), o.lightest()); break;
            case 17: n = arcNumber(); due("tune(" + n + ")", x.tune(n), o.tune(n)); break;
            case 18: n = arcNumber(); due("tuned(" + n + ")", x.tuned(n), o.tuned(n)); break;
            case 19: hunt(); break;
            case 20: { int k = lots.nextInt(5) == 0 ? in(-1, 62) : in(1, 9); n = lots.nextInt(4) == 0 ? in(-1, 3) : in(0, 1); int what = in(0, 9) == 0 ? in(-1, 2) : in(0, 1);
                due("chance(" + k + ", " + n + ", " + what + ")", x.chance(k, n, what), o.chance(k, n, what)); break; }
            case 21: { n = lots.nextInt(4) == 0 ? in(-1, 3) : in(0, 1); int what = in(0, 9) == 0 ? in(-1, 2) : in(0, 1);
                due("mean(" + n + ", " + what + ")", x.mean(n, what), o.mean(n, what)); break; }
            case 22: n = in(-1, 10); due("count(" + n + ")", x.count(n), o.count(n)); break;
            case 23: { int c = arcNumber(); n = in(-1, 5); due("arc(" + c + ", " + n + ")", x.arc(c, n), o.arc(c, n)); break; }
            case 24: { int g = member(); int h = member(); due("product(" + g + ", " + h + ")", x.product(g, h), o.product(g, h)); break; }
            case 25: { int g = member(); due("inverse(" + g + ")", x.inverse(g), o.inverse(g)); break; }
            case 26: { int g = member(); due("orderOf(" + g + ")", x.orderOf(g), o.orderOf(g)); break; }
            case 27: due("centre()", x.centre(), o.centre()); break;
            case 28: n = in(-1, 2); due("fault(" + n + ")", x.fault(n), o.fault(n)); break;
            case 29: n = in(-1, o.count(8) + 2); if (n > o.count(8) || n < 0 || lots.nextInt(9) == 0) due("works(" + n + ")", x.works(n), o.works(n)); break;
            default: n = lots.nextInt(); due("feed(" + n + ")", x.feed(n, 1, 2, 3, n), o.feed(n, 1, 2, 3, n)); break;
        }
    }

    private void hunt() {
        int d = lots.nextInt(10) == 0 ? in(1, 5) : in(2, 4);
        int g = lots.nextInt(10) == 0 ? in(2, 9) : in(3, 8);
        int n = lots.nextInt(10) == 0 ? in(0, 15) : in(1, 14);
        int what = lots.nextInt(10) == 0 ? in(-1, 3) : in(0, 2);
        // The same but for its nodes first: an answer may not come from another search.
        if (n > 3) due("search(" + d + ", " + g + ", 3, 1)", x.search(d, g, 3, 1), o.search(d, g, 3, 1));
        if (lots.nextBoolean()) {
            due("search(" + d + ", " + g + ", " + n + ", " + what + ")", x.search(d, g, n, what), o.search(d, g, n, what));
        } else {
            int a = in(-1, n);
            int b = in(-1, n);
            due("found(" + d + ", " + g + ", " + n + ", " + a + ", " + b + ")", x.found(d, g, n, a, b), o.found(d, g, n, a, b));
        }
    }

    private void put(int tray, int i, long v) { due("write(" + tray + ", " + i + ", " + v + ")", x.write(tray, i, v), o.write(tray, i, v)); }

    private void lay(int tray, int sort, int n) { due("numbers(" + tray + ", " + sort + ", " + n + ")", x.numbers(tray, sort, n), o.numbers(tray, sort, n)); }

    private void trayCalls() {
        int t = lots.nextInt(9) == 0 ? in(-1, 4) : in(0, 3);
        switch (lots.nextInt(7)) {
            case 0: lay(t, in(-1, 4), in(-1, 41)); break;
            case 1: put(t, in(-1, 41), lots.nextLong()); break;
            case 2: deeds(t); break;
            case 3: walks(t); break;
            case 4: weighing(t); break;
            case 5: due("lists(" + t + ")", x.lists(t), o.lists(t)); break;
            default: break;
        }
        due("walk(" + t + ")", x.walk(t), o.walk(t));
        due("lifted(" + t + ")", x.lifted(t), o.lifted(t));
        due("twists(" + t + ")", x.twists(t), o.twists(t));
        due("weigh(" + t + ")", x.weigh(t), o.weigh(t));
        int what = in(-1, 4);
        due("judge(" + t + ", " + what + ")", x.judge(t, what), o.judge(t, what));
    }

    private void deeds(int t) {
        int n = in(0, 6);
        lay(t, in(1, 3), n);
        for (int i = 0; i < n; i++) {
            int r = lots.nextInt(8);
            put(t, i, r == 0 ? lots.nextInt(2300) - 20 : r < 3 ? in(9, 20) : r < 5 ? 100 + arcNumber() : 1000 + 100 * arcNumber() + member());
        }
        for (int what = 0; what < 4; what++) due("judge(" + t + ", " + what + ")", x.judge(t, what), o.judge(t, what));
        due("perform(" + t + ")", x.perform(t), o.perform(t));
        for (int i = 3; i <= 7; i++) due("count(" + i + ")", x.count(i), o.count(i));
    }

    /** Walks by lots seldom hang together; so steps are tried till one does. */
    private void walks(int t) {
        int n = in(0, 13);
        lay(t, in(0, 3), n);
        int at = -1;
        for (int i = 0; i < n; i++) {
            int step = in(-1, 2 * o.count(1));
            for (int k = 0; k < 60 && lots.nextInt(40) > 0; k++) {
                int s = in(0, Math.max(0, 2 * o.count(1) - 1));
                if (at < 0 || o.arc(s / 2, s % 2) == at) {
                    step = s;
                    break;
                }
            }
            at = step < 0 ? -1 : o.arc(step / 2, 1 - step % 2);
            put(t, i, step);
        }
    }

    private void weighing(int t) {
        int n = lots.nextInt(4) == 0 ? in(0, 9) : in(1, 2);
        lay(t, in(2, 3), n);
        for (int i = 0; i < n; i++) {
            long v = 10000L * arcNumber() + 100 * member() + (lots.nextInt(3) == 0 ? in(0, 99) : 1);
            put(t, i, v);
            // The weight it has by some twist is found by asking.
            for (int k = 1; k < 100 && n == 1 && x.twists(t) == 0 && o.twists(t) == 0; k++) put(t, i, v / 100 * 100 + k);
        }
    }
}
